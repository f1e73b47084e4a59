/**
 * Each promise by small nets whose answers are worked out by hand. In most of them there are 8 cells and the only
 * hash function is p % 8 (the text N081h10), so that pages 1, 9, 17 and 25 share a cell.
 */
final class PromiseTests {
    private static final int UNKNOWN = -1, OUTSIDE = -2, STATE = -3, FULL = -4, NONE = -9;
    private static final int LEAST = Integer.MIN_VALUE, MOST = Integer.MAX_VALUE;
    private static final String TWO = "N081h10p33p33s001s002";
    private static final String THREE = "N081h10p33p33p33s001s109s205";

    private static int promise = 0;
    private static ShelfFilters x = null;

    private PromiseTests() {
    }

    static void run() {
        newObject();
        write();
        wipe();
        fault();
        faultOfParts();
        net();
        netKeepsAndEmpties();
        proxy();
        page();
        counter();
        hash();
        says();
        ask();
        askRenews();
        askWithoutRoom();
        drop();
        send();
        threshold();
        use();
        undo();
        undoEachAct();
        weight();
        best();
        plan();
        order();
        judge();
        judgeForms();
        see();
        unsee();
        which();
        share();
        lost();
        lostOfThree();
        seed();
        drawn();
        keep();
        again();
        count();
    }

    private static void begin(int number, String text) {
        promise = number;
        x = text == null ? new ShelfFilters() : Check.net(text);
    }

    private static void due(String call, long got, long due) {
        Check.same("promise " + promise + ": " + call, got, due);
    }

    /** Asks, fetching or not, without a look at the answer. */
    private static void askAll(int proxy, int... pages) {
        for (int page : pages) {
            x.ask(proxy, page);
        }
    }

    private static void undoAll() {
        for (int i = 0; i < 14; i++) {
            x.undo();
        }
        due("acts left after 14 undone", x.count(11), 0);
    }

    private static void newObject() {
        begin(1, null);
        int[] counts = {0, 0, 1, 8, 2, 0, 0, 0, 0, 0, 0, 0, 0};
        for (int i = 0; i < counts.length; i++) {
            due("count " + i, x.count(i), counts[i]);
        }
        due("hash by A = 1 and B = 1", x.hash(0, 6, 0), 7);
        due("hash by A = 1 and B = 1", x.hash(0, 6, 1), 2);
        due("which", x.which(), -1);
        due("undo", x.undo(), STATE);
        due("again 0", x.again(0), STATE);
        due("again 1", x.again(1), STATE);
        due("fault", x.fault(), 0);
        due("wipe", x.wipe(), 0);
        due("unsee", x.unsee(), 0);
        due("seed", x.seed(5), 0);
        ShelfFilters other = new ShelfFilters();
        other.write('N');
        due("objects share nothing", x.count(0), 0);
    }

    private static void write() {
        begin(2, null);
        due("write 0", x.write(0), 1);
        due("write 255", x.write(255), 2);
        due("write -1", x.write(-1), OUTSIDE);
        due("write 256", x.write(256), OUTSIDE);
        due("write the least int", x.write(LEAST), OUTSIDE);
        due("write the greatest int", x.write(MOST), OUTSIDE);
        for (int i = 3; i <= 100; i++) {
            due("write " + i, x.write('a'), i);
        }
        due("write into a full text", x.write('a'), FULL);
        due("OUTSIDE comes before FULL", x.write(256), OUTSIDE);
        due("length", x.count(0), 100);
    }

    private static void wipe() {
        begin(3, null);
        due("wipe of nothing", x.wipe(), 0);
        Check.write(x, "N081");
        due("wipe", x.wipe(), 4);
        due("wipe again", x.wipe(), 0);
        due("length", x.count(0), 0);
        due("fault", x.fault(), 0);
        due("write after it", x.write('N'), 1);
    }

    private static void faultIs(String text, int fault) {
        due("fault of " + text, Check.withText(text).fault(), fault);
    }

    private static void fault() {
        promise = 4;
        faultIs("", 0);
        faultIs("n", 0);
        faultIs("N", 1);
        faultIs("N2", 1);
        faultIs("N/", 1);
        faultIs("N0", 2);
        faultIs("N03", 2);
        faultIs("N0:", 2);
        faultIs("N04", 3);
        faultIs("N091", NONE);
        faultIs("N101", NONE);
        faultIs("N163", NONE);
        faultIs("N171", 2);
        faultIs("N040", 3);
        faultIs("N044", 3);
        faultIs("N041", NONE);
        faultIs("N041 ", 4);
        faultIs("N041N", 4);
        faultIs("N041h", 5);
        faultIs("N041h0", 5);
        faultIs("N041h1", 6);
        faultIs("N041h1:", 6);
        faultIs("N041h10", NONE);
        faultIs("N041h99h99h99", NONE);
        faultIs("N041h10h20h30h", 13);
        faultIs("N041p", 5);
        faultIs("N041p01", 5);
        faultIs("N041p10", 6);
        faultIs("N041p11p22p33p99", NONE);
        faultIs("N041p11p11p11p11p", 16);
    }

    private static void faultOfParts() {
        promise = 4;
        faultIs("N041s", 4);
        faultIs("N041p11s", 8);
        faultIs("N041p11s1", 8);
        faultIs("N041p11s/", 8);
        faultIs("N041p11s0", 9);
        faultIs("N041p11s00", 10);
        faultIs("N041p11s000", NONE);
        faultIs("N041p11s000h10p11", NONE);
        faultIs("N041p11s000s", 11);
        faultIs("N041p11p11s000s0", 15);
        faultIs("N041p11p11s000s1", 16);
        faultIs("N041p11s100p11", 8);
        faultIs("N041p21s005s005", 14);
        faultIs("N041p21p11s005s105", NONE);
        faultIs("N041p21s04", 9);
        faultIs("N041p21s031", NONE);
        faultIs("N041p21s032", 10);
        faultIs("N041p21s00:", 10);
        faultIs("N041p31s030s03", 14);
        faultIs("N041p31s030s030", 14);
        faultIs("N041p31s030s031s03", 17);
        faultIs("N041p31s030s031s02", 18);
        StringBuilder longest = new StringBuilder("N041p91p91p91p91");
        for (int i = 0; i < 21; i++) {
            longest.append('s').append(i / 9).append("0").append(i % 9);
        }
        Check.same("letters of the longest text", longest.length(), 100);
        faultIs(longest.toString(), NONE);
        due("net of the longest text", Check.withText(longest.toString()).net(), 4);
    }

    private static void net() {
        begin(5, null);
        due("net of an empty text", x.net(), STATE);
        Check.write(x, "N043s");
        due("net of a text with a fault", x.net(), STATE);
        due("M stays", x.count(3), 8);
        x.wipe();
        Check.write(x, "N123p52s007s003h57h10");
        due("net", x.net(), 1);
        due("M", x.count(3), 12);
        due("K", x.count(4), 3);
        due("families", x.count(2), 2);
        due("room", x.proxy(0, 0), 5);
        due("threshold", x.proxy(0, 1), 2);
        due("the newest page", x.page(0, 0), 7);
        due("the older page", x.page(0, 1), 3);
        due("no changes", x.proxy(0, 3), 0);
        due("the text stays", x.count(0), 21);
        // 5 * 7 + 7 = 42 is 5; 5 * 7 + 28 = 63 is 26, 2; 5 * 7 + 63 = 98 is 24, 0.
        // 5 * 3 + 7 = 22 is 10; 5 * 3 + 28 = 43 is 6; 5 * 3 + 63 = 78 is 4.
        due("the summary by the first family", x.proxy(0, 4), 1 | 1 << 2 | 1 << 4 | 1 << 5 | 1 << 6 | 1 << 10);
        x.wipe();
        Check.write(x, "N081");
        due("net without proxies", x.net(), 0);
        due("no proxy any more", x.proxy(0, 0), UNKNOWN);
        due("one family again", x.count(2), 1);
        due("A = 1 and B = 1", x.hash(0, 2, 0), 3);
    }

    private static void netKeepsAndEmpties() {
        begin(5, "N081h10h23p33p33s001");
        x.see(0, 0, 1);
        x.seed(77);
        x.use(1);
        askAll(1, 1, 2, 3);
        x.keep(0);
        x.keep(1);
        due("net", x.net(), 2);
        int[] counts = {20, 2, 2, 8, 1, 0, 0, 0, 0, 0, 1, 0, 1};
        for (int i = 0; i < counts.length; i++) {
            due("count " + i, x.count(i), counts[i]);
        }
        due("slot 0 is empty", x.again(0), STATE);
        due("slot 1 is empty", x.again(1), STATE);
        due("nothing to undo", x.undo(), STATE);
        due("the observations stay", x.which(), 2);
        due("the seed stays", x.seed(0), 77);
        due("the counters are new", x.counter(1, 3), 0);
        x.ask(0, 4);
        x.write('x');
        due("a fault changes nothing", x.net(), STATE);
        due("a fault changes no shelf", x.proxy(0, 2), 2);
        due("a fault forgets no act", x.undo(), 0);
    }

    private static void proxy() {
        begin(6, TWO);
        int[] properties = {3, 3, 2, 0, 6, 6, 0, 6};
        for (int i = 0; i < properties.length; i++) {
            due("proxy 0 " + i, x.proxy(0, i), properties[i]);
        }
        due("an empty shelf", x.proxy(1, 7), 0);
        due("an empty summary", x.proxy(1, 5), 0);
        x.drop(0, 1);
        due("changes", x.proxy(0, 3), 1);
        due("the summary is old", x.proxy(0, 4), 6);
        due("pages wrongly in the summary", x.proxy(0, 5), 7);
        x.ask(0, 3);
        due("changes", x.proxy(0, 3), 2);
        due("pages not in the summary", x.proxy(0, 6), 1);
        due("pages wrongly in the summary", x.proxy(0, 5), 7);
        due("pages", x.proxy(0, 7), 12);
        due("no proxy 2", x.proxy(2, 0), UNKNOWN);
        due("no proxy -1", x.proxy(-1, 0), UNKNOWN);
        due("no proxy 4", x.proxy(4, 0), UNKNOWN);
        due("what 8", x.proxy(0, 8), OUTSIDE);
        due("what -1", x.proxy(0, -1), OUTSIDE);
        due("UNKNOWN comes before OUTSIDE", x.proxy(2, 8), UNKNOWN);
        begin(6, "N081h10p99s031");
        due("page 31 is the sign bit", x.proxy(0, 7), LEAST);
        due("four pages share a cell", x.proxy(0, 5), 3);
    }

    private static void page() {
        begin(7, "N081h10p33p91s004s019");
        due("the newest", x.page(0, 0), 4);
        due("the second", x.page(0, 1), 19);
        due("no third", x.page(0, 2), NONE);
        due("no ninth", x.page(0, 8), NONE);
        due("place 9", x.page(0, 9), OUTSIDE);
        due("place -1", x.page(0, -1), OUTSIDE);
        due("place of the greatest int", x.page(0, MOST), OUTSIDE);
        due("no proxy 2", x.page(2, 0), UNKNOWN);
        due("no proxy -1", x.page(-1, 0), UNKNOWN);
        due("UNKNOWN comes before OUTSIDE", x.page(2, 9), UNKNOWN);
        askAll(1, 0, 1, 2, 3, 4, 5, 6, 7, 8);
        due("the oldest of nine", x.page(1, 8), 0);
        x.ask(1, 9);
        due("the oldest goes", x.page(1, 8), 1);
        due("the newest of nine", x.page(1, 0), 9);
    }

    private static void counter() {
        begin(8, "N042h10p99");
        due("at first", x.counter(0, 0), 0);
        int[] counters = {2, 4, 6, 7, 7};
        for (int i = 0; i < counters.length; i++) {
            x.ask(0, 4 * i);
            due("both functions give cell 0", x.counter(0, 0), counters[i]);
        }
        x.ask(0, 5);
        due("another cell", x.counter(0, 1), 2);
        x.drop(0, 5);
        due("decreased", x.counter(0, 1), 0);
        for (int i = 0; i < counters.length; i++) {
            x.drop(0, 4 * i);
            due("7 does not change", x.counter(0, 0), 7);
        }
        due("no cell 4", x.counter(0, 4), UNKNOWN);
        due("no cell -1", x.counter(0, -1), UNKNOWN);
        due("no cell of the least int", x.counter(0, LEAST), UNKNOWN);
        due("no proxy 1", x.counter(1, 0), UNKNOWN);
        due("no proxy -1", x.counter(-1, 0), UNKNOWN);
        begin(8, "N161p11s015");
        due("cell 15 of 16", x.counter(0, 15), 0);
        due("page 15 by A = 1 and B = 1", x.counter(0, 0), 1);
        due("no cell 16", x.counter(0, 16), UNKNOWN);
    }

    private static void hash() {
        begin(9, "N163h57h90h19");
        due("155 + 7 = 162", x.hash(0, 31, 0), 14);
        due("155 + 28 = 183", x.hash(0, 31, 1), 35 % 16);
        due("155 + 63 = 218", x.hash(0, 31, 2), 33 % 16);
        due("279", x.hash(1, 31, 2), 20 % 16);
        due("81", x.hash(2, 0, 2), 7);
        due("page 0 and B = 0", x.hash(1, 0, 0), 0);
        due("no family 3", x.hash(3, 0, 0), UNKNOWN);
        due("no family -1", x.hash(-1, 0, 0), UNKNOWN);
        due("no page 32", x.hash(0, 32, 0), UNKNOWN);
        due("no page -1", x.hash(0, -1, 0), UNKNOWN);
        due("i = 3", x.hash(0, 0, 3), OUTSIDE);
        due("i = -1", x.hash(0, 0, -1), OUTSIDE);
        due("UNKNOWN comes before OUTSIDE", x.hash(0, 32, 3), UNKNOWN);
        due("UNKNOWN comes before OUTSIDE", x.hash(3, 0, 3), UNKNOWN);
        begin(9, "N081");
        due("i = 1 with K = 1", x.hash(0, 0, 1), OUTSIDE);
        due("no family 1", x.hash(1, 0, 0), UNKNOWN);
    }

    private static void says() {
        begin(10, TWO);
        due("a page of the shelf", x.says(0, 1, false), 1);
        due("a page with its cell", x.says(0, 9, false), 1);
        due("another page", x.says(0, 3, false), 0);
        x.ask(0, 3);
        due("not yet in the summary", x.says(0, 3, false), 0);
        due("in the filter", x.says(0, 3, true), 1);
        x.drop(0, 1);
        due("still in the summary", x.says(0, 25, false), 1);
        due("no more in the filter", x.says(0, 25, true), 0);
        due("no page 32", x.says(0, 32, true), UNKNOWN);
        due("no page -1", x.says(0, -1, false), UNKNOWN);
        due("no proxy 2", x.says(2, 0, false), UNKNOWN);
        due("no proxy -1", x.says(-1, 0, true), UNKNOWN);
        begin(10, "N082p11s000");
        due("cells 1 and 4 of page 0", x.proxy(0, 4), 18);
        due("page 3 has 4 and 7", x.says(0, 3, false), 0);
        due("page 5 has 6 and 1", x.says(0, 5, true), 0);
        due("page 8 has 1 and 4", x.says(0, 8, false), 1);
    }

    private static void counts(int requests, int falseHits, int fetches, int messages) {
        due("requests", x.count(6), requests);
        due("false hits", x.count(7), falseHits);
        due("fetches", x.count(8), fetches);
        due("messages", x.count(9), messages);
    }

    private static void ask() {
        begin(11, THREE);
        due("another proxy has it", x.ask(2, 1), 0);
        counts(1, 0, 0, 0);
        due("behind a false hit", x.ask(2, 9), 1);
        counts(3, 1, 0, 0);
        due("two changes", x.proxy(2, 3), 2);
        due("only false hits", x.ask(2, 17), NONE);
        counts(5, 3, 1, 2);
        due("two more changes made it send", x.proxy(2, 3), 0);
        due("its pages", x.proxy(2, 7), 1 << 17 | 1 << 9 | 1 << 1);
        due("its summary", x.proxy(2, 4), 2);
        due("on its own shelf", x.ask(2, 1), 10);
        counts(5, 3, 1, 2);
        due("no change", x.proxy(2, 3), 0);
        due("it is the newest", x.page(2, 0), 1);
        due("then the one before", x.page(2, 1), 17);
        due("nobody says that he has it", x.ask(0, 6), NONE);
        counts(5, 3, 2, 2);
        due("no more are asked behind a hit", x.ask(1, 1), 0);
        counts(6, 3, 2, 2);
        due("acts", x.count(11), 6);
        due("no proxy 3", x.ask(3, 0), UNKNOWN);
        due("no proxy -1", x.ask(-1, 0), UNKNOWN);
        due("no page 32", x.ask(0, 32), UNKNOWN);
        due("no page -1", x.ask(0, -1), UNKNOWN);
        due("errors are no acts", x.count(11), 6);
        counts(6, 3, 2, 2);
    }

    private static void askRenews() {
        begin(11, TWO);
        due("it is on the shelf of proxy 0", x.ask(1, 2), 0);
        due("and becomes the newest there", x.page(0, 0), 2);
        due("before the other", x.page(0, 1), 1);
        due("which is no change", x.proxy(0, 3), 0);
        due("it stays there", x.proxy(0, 2), 2);
        due("it came to proxy 1", x.page(1, 0), 2);
        due("which is a change", x.proxy(1, 3), 1);
        begin(11, "N081h10p91p91s001s102");
        due("a page that comes", x.ask(0, 3), NONE);
        due("a proxy with threshold 1 sends at once", x.proxy(0, 4), 10);
        due("to the one other", x.count(9), 1);
        due("a page of the own shelf", x.ask(0, 1), 10);
        due("needs no message", x.count(9), 1);
    }

    private static void askWithoutRoom() {
        begin(11, "N042h10p13p33s000");
        due("counted twice", x.counter(0, 0), 2);
        due("fetched", x.ask(0, 4), NONE);
        due("page 0 went first", x.proxy(0, 7), 16);
        due("the counter", x.counter(0, 0), 2);
        due("two changes", x.proxy(0, 3), 2);
        due("below the threshold", x.count(9), 0);
        due("fetched", x.ask(0, 1), NONE);
        due("sent", x.count(9), 1);
        due("no changes", x.proxy(0, 3), 0);
        due("the summary", x.proxy(0, 4), 2);
    }

    private static void drop() {
        begin(12, TWO);
        due("drop", x.drop(0, 1), 1);
        due("a change", x.proxy(0, 3), 1);
        due("the counter", x.counter(0, 1), 0);
        due("not there", x.drop(0, 1), STATE);
        due("not there", x.drop(1, 0), STATE);
        due("one act", x.count(11), 1);
        due("drop the last", x.drop(0, 2), 0);
        due("two changes", x.proxy(0, 3), 2);
        due("no page 32", x.drop(0, 32), UNKNOWN);
        due("no page -1", x.drop(0, -1), UNKNOWN);
        due("no proxy 2", x.drop(2, 1), UNKNOWN);
        due("no proxy -1", x.drop(-1, 1), UNKNOWN);
        begin(12, "N081h10p92p92p92s001s002s003");
        due("drop the middle", x.drop(0, 2), 2);
        due("the newest stays", x.page(0, 0), 1);
        due("the oldest moves up", x.page(0, 1), 3);
        due("not sent", x.count(9), 0);
        due("drop one more", x.drop(0, 1), 1);
        due("sent to two", x.count(9), 2);
        due("the summary", x.proxy(0, 4), 8);
        due("no changes", x.proxy(0, 3), 0);
        counts(0, 0, 0, 2);
    }

    private static void send() {
        begin(13, THREE);
        x.ask(0, 6);
        due("the summary before", x.proxy(0, 4), 2);
        due("send", x.send(0), 66);
        due("the summary", x.proxy(0, 4), 66);
        due("no changes", x.proxy(0, 3), 0);
        due("messages", x.count(9), 2);
        due("send again", x.send(0), 66);
        due("messages", x.count(9), 4);
        due("acts", x.count(11), 3);
        due("no proxy 3", x.send(3), UNKNOWN);
        due("no proxy -1", x.send(-1), UNKNOWN);
        due("acts", x.count(11), 3);
        begin(13, "N161h10p99s015");
        due("alone", x.send(0), 1 << 15);
        due("there is nobody to send to", x.count(9), 0);
    }

    private static void threshold() {
        begin(14, TWO);
        x.ask(0, 3);
        due("threshold", x.threshold(0, 2), 3);
        due("not reached", x.proxy(0, 3), 1);
        due("threshold", x.threshold(0, 1), 2);
        due("reached", x.proxy(0, 3), 0);
        due("sent", x.count(9), 1);
        due("the summary", x.proxy(0, 4), 14);
        due("the same one", x.threshold(0, 1), 1);
        due("acts", x.count(11), 4);
        due("0", x.threshold(0, 0), OUTSIDE);
        due("10", x.threshold(0, 10), OUTSIDE);
        due("the least int", x.threshold(0, LEAST), OUTSIDE);
        due("no proxy 2", x.threshold(2, 1), UNKNOWN);
        due("no proxy -1", x.threshold(-1, 1), UNKNOWN);
        due("UNKNOWN comes before OUTSIDE", x.threshold(2, 0), UNKNOWN);
        due("9", x.threshold(0, 9), 1);
        due("it is set", x.proxy(0, 1), 9);
    }

    private static void use() {
        begin(15, "N042h10h11p99p99p99s000s004s008s012s101");
        x.ask(0, 16);
        x.drop(0, 0);
        due("a counter that stays 7", x.counter(0, 0), 7);
        due("use the present one", x.use(0), 0);
        due("rebuilt with 4 pages", x.counter(0, 0), 7);
        x.drop(0, 4);
        due("use the present one again", x.use(0), 0);
        due("rebuilt with 3 pages", x.counter(0, 0), 6);
        due("6 messages each", x.count(9), 12);
        due("no changes", x.proxy(0, 3), 0);
        due("use another", x.use(1), 0);
        // Page 8 has cells 9 and 12, page 12 has 13 and 16, page 16 has 17 and 20.
        due("cell 0", x.counter(0, 0), 3);
        due("cell 1", x.counter(0, 1), 3);
        due("all summaries are new", x.proxy(0, 4), 3);
        due("that of proxy 1: cells 2 and 5", x.proxy(1, 4), 6);
        due("the present family", x.count(5), 1);
        due("a page that comes is counted by it", x.ask(2, 2), NONE);
        due("cell 3", x.counter(2, 3), 1);
        due("cell 6", x.counter(2, 2), 1);
        due("back", x.use(0), 1);
        due("no family 2", x.use(2), UNKNOWN);
        due("no family -1", x.use(-1), UNKNOWN);
        due("the present family", x.count(5), 0);
    }

    private static void undo() {
        begin(16, "N081h10p99p99");
        for (int i = 0; i < 16; i++) {
            due("acts before ask " + i, x.count(11), Math.min(i, 14));
            x.ask(0, i);
        }
        for (int i = 13; i >= 0; i--) {
            due("undo", x.undo(), i);
            due("fetches", x.count(8), i + 2);
            due("the newest page", x.page(0, 0), i + 1);
        }
        due("the first two acts stay", x.undo(), STATE);
        due("fetches", x.count(8), 2);
        x.ask(0, 20);
        x.ask(0, 21);
        x.undo();
        x.ask(0, 22);
        due("acts", x.count(11), 2);
        due("undo", x.undo(), 1);
        due("undo", x.undo(), 0);
        due("the newest page", x.page(0, 0), 1);
        due("undo", x.undo(), STATE);
        for (int i = 0; i < 20; i++) {
            x.send(0);
        }
        due("undo", x.undo(), 13);
        due("undo", x.undo(), 12);
        x.send(0);
        due("acts", x.count(11), 13);
    }

    private static void undoEachAct() {
        for (int i = 0; i < 6; i++) {
            begin(16, "N081h10h23p32p33s001s002s103");
            x.keep(0);
            x.see(0, 0, 1);
            x.seed(9);
            String start = image();
            switch (i) {
                case 0: x.ask(0, 3); break;
                case 1: x.drop(0, 2); break;
                case 2: x.send(1); break;
                case 3: x.threshold(0, 1); break;
                case 4: x.use(1); break;
                default: askAll(1, 5, 6, 7); break;
            }
            Check.that("promise 16: act " + i + " does something", !image().equals(start));
            undoAll();
            Check.that("promise 16: act " + i + " is undone", image().equals(start));
            due("slots are left", x.again(0), 2);
            due("observations are left", x.count(12), 1);
            due("the seed is left", x.seed(0), 9);
        }
    }

    private static String image() {
        return Image.ofNet(x);
    }

    private static void weight() {
        for (int k = 1; k <= 3; k++) {
            for (int m = 4; m <= 16; m++) {
                begin(17, String.format("N%02d%dh10p99", m, k));
                for (int cells = 0; cells <= 9 && cells <= m; cells++) {
                    float w = (float) cells / (float) m;
                    float estimate = k == 1 ? w : k == 2 ? w * w : w * w * w;
                    due("M " + m + ", K " + k + ", cells " + cells, x.weight(0), Float.floatToIntBits(estimate));
                    x.ask(0, cells);
                }
            }
        }
        begin(17, "N041h10p99s000");
        due("a fourth", x.weight(0), 0x3e800000);
        x.drop(0, 0);
        due("nothing", x.weight(0), 0);
        askAll(0, 0, 1, 2, 3);
        due("all", x.weight(0), 0x3f800000);
        due("no proxy 1", x.weight(1), UNKNOWN);
        due("no proxy -1", x.weight(-1), UNKNOWN);
    }

    private static void best() {
        // By A = 4 and B = 4 the pages 0 to 8, and no others, have cell 0 of 4.
        begin(18, "N041h10h44p51p51s000s001s100");
        due("the better family", x.best(0, 0), 1);
        due("its number", x.best(0, 1), 7);
        due("the better one for proxy 1", x.best(1, 0), 0);
        due("its number", x.best(1, 1), 7);
        due("the present family stays", x.count(5), 0);
        due("no proxy 2", x.best(2, 0), UNKNOWN);
        due("no proxy -1", x.best(-1, 1), UNKNOWN);
        due("what 2", x.best(0, 2), OUTSIDE);
        due("what -1", x.best(0, -1), OUTSIDE);
        due("UNKNOWN comes before OUTSIDE", x.best(2, 2), UNKNOWN);
        begin(18, "N041h44h10h44p51s000s001");
        due("the smallest of equal ones", x.best(0, 0), 0);
        x.use(1);
        due("whatever the present one is", x.best(0, 0), 0);
        begin(18, "N041h10p91");
        due("an empty shelf", x.best(0, 1), 0);
        for (int i = 0; i < 9; i++) {
            x.ask(0, i);
        }
        x.drop(0, 1);
        x.drop(0, 5);
        due("it counts as rebuilt, not as it is", x.best(0, 1), 24 - 7);
    }

    private static void plan() {
        begin(19, THREE);
        String before = image();
        due("a page of the shelf", x.plan(0, 1, 1), 0);
        due("a fetch", x.plan(0, 1, 6), 5);
        due("a request", x.plan(2, 1, 1), 1);
        due("a false hit and a request", x.plan(2, 1, 9), 2);
        // 1 request, 2 requests, then 2 requests, a fetch and 2 messages.
        due("three", x.plan(2, 3, 10917), 1 + 2 + 9);
        due("four, the last on the shelf", x.plan(2, 4, 1091701), 12);
        due("page 0 twice, then page 31", x.plan(0, 3, 31), 5 + 0 + 5);
        Check.that("promise 19: nothing changes", image().equals(before) && x.count(11) == 0);
        due("page 32", x.plan(0, 1, 32), UNKNOWN);
        due("page 99", x.plan(0, 2, 199), UNKNOWN);
        due("page 32 first", x.plan(0, 4, 32000000), UNKNOWN);
        due("no proxy 3", x.plan(3, 1, 0), UNKNOWN);
        due("no proxy -1", x.plan(-1, 1, 0), UNKNOWN);
        due("n 0", x.plan(0, 0, 0), OUTSIDE);
        due("n 5", x.plan(0, 5, 0), OUTSIDE);
        due("n of the least int", x.plan(0, LEAST, 0), OUTSIDE);
        due("n of the greatest int", x.plan(0, MOST, 0), OUTSIDE);
        due("row -1", x.plan(0, 1, -1), OUTSIDE);
        due("three digits for one page", x.plan(0, 1, 100), OUTSIDE);
        due("nine digits for four", x.plan(0, 4, 100000000), OUTSIDE);
        due("eight digits for four", x.plan(0, 4, 31313131), 5);
        due("the first UNKNOWN comes before OUTSIDE", x.plan(3, 0, 0), UNKNOWN);
        due("OUTSIDE comes before the last UNKNOWN", x.plan(0, 1, 132), OUTSIDE);
        Check.that("promise 19: nothing changes by errors", image().equals(before));
    }

    private static void order() {
        begin(20, "N081h10p19s005");
        String before = image();
        int pages = 1 << 3 | 1 << 5;
        due("cost", x.order(0, pages, -1), 5);
        due("first the page that would go", x.order(0, pages, 0), 5);
        due("then the other", x.order(0, pages, 1), 3);
        due("no third", x.order(0, pages, 2), NONE);
        due("no such index", x.order(0, pages, MOST), NONE);
        due("one page", x.order(0, 1 << 5, -1), 0);
        int five = LEAST | 1 << 30 | 7;
        due("five", x.order(0, five, -1), 25);
        int[] ascending = {0, 1, 2, 30, 31};
        for (int i = 0; i < 5; i++) {
            due("of equal ones the smallest, " + i, x.order(0, five, i), ascending[i]);
        }
        due("no sixth", x.order(0, five, 5), NONE);
        due("no page", x.order(0, 0, -1), OUTSIDE);
        due("six pages", x.order(0, 63, -1), OUTSIDE);
        due("all pages", x.order(0, -1, -1), OUTSIDE);
        due("k -2", x.order(0, 1, -2), OUTSIDE);
        due("k of the least int", x.order(0, 1, LEAST), OUTSIDE);
        due("no proxy 1", x.order(1, 1, -1), UNKNOWN);
        due("no proxy -1", x.order(-1, 1, -1), UNKNOWN);
        due("UNKNOWN comes before OUTSIDE", x.order(1, 0, -2), UNKNOWN);
        Check.that("promise 20: nothing changes", image().equals(before) && x.count(11) == 0);
        begin(20, "N081h10p39p39s007s006s005");
        int four = 0xF << 4;
        due("page 4 last", x.order(0, four, -1), 5);
        int[] order = {5, 6, 7, 4};
        for (int i = 0; i < 4; i++) {
            due("page " + i, x.order(0, four, i), order[i]);
        }
    }

    private static void judge() {
        begin(21, "N081h10h23p33p33s001s002");
        String before = image();
        due("ask", x.judge(1, 10030L), NONE);
        due("drop", x.judge(1, 20010L), NONE);
        due("drop what is not there", x.judge(1, 20030L), 0);
        due("ask, then drop it", x.judge(2, 1003020030L), NONE);
        due("drop twice", x.judge(3, 200102001040010L), 1);
        due("send", x.judge(1, 31000L), NONE);
        due("page 1 is there", x.judge(1, 40011L), NONE);
        due("page 1 is not there", x.judge(1, 40010L), 0);
        due("page 3 is not there", x.judge(1, 40030L), NONE);
        due("page 3 is there", x.judge(1, 40031L), 0);
        due("the summary has page 9", x.judge(1, 50091L), NONE);
        due("the summary has page 3", x.judge(1, 50031L), 0);
        due("the summary has not page 3", x.judge(1, 50030L), NONE);
        due("two changes", x.judge(3, 200102002060002L), NONE);
        due("one change", x.judge(3, 200102002060001L), 2);
        due("three changes make it send", x.judge(3, 200102002010030L), NONE);
        due("ask, not yet in the summary", x.judge(2, 1003050031L), 1);
        due("ask, send, in the summary", x.judge(3, 100303000050031L), NONE);
        due("use", x.judge(1, 71000L), NONE);
        due("ask, use, in the summary", x.judge(3, 100307000050031L), NONE);
        due("use, then by family 1: 2 * 17 + 3 = 37", x.judge(2, 7100050171L), 1);
        due("leading zeros are a step of sort 0", x.judge(2, 10030L), 0);
        Check.that("promise 21: nothing changes", image().equals(before) && x.count(11) == 0);
        due("n 0", x.judge(0, 0), OUTSIDE);
        due("n 4", x.judge(4, 0), OUTSIDE);
        due("n of the least int", x.judge(LEAST, 0), OUTSIDE);
        due("n of the greatest int", x.judge(MOST, 0), OUTSIDE);
        due("a negative row", x.judge(1, -1), OUTSIDE);
        due("the least row", x.judge(3, Long.MIN_VALUE), OUTSIDE);
        due("the greatest row", x.judge(3, Long.MAX_VALUE), OUTSIDE);
        due("six digits", x.judge(1, 100000L), OUTSIDE);
        due("sixteen digits", x.judge(3, 1000000000000000L), OUTSIDE);
        due("fifteen digits", x.judge(3, 999999999999999L), 0);
    }

    private static void judgeForms() {
        begin(21, "N081h10h23p33p33s001s002");
        int[] impossible = {0, 10031, 10320, 12030, 20011, 20320, 22010, 30001, 30010, 32000, 40012, 40320, 42010, 50012,
            50320, 52010, 60010, 62000, 70001, 70010, 72000, 80000, 90000, 60001, 60009};
        for (int step : impossible) {
            due("step " + step, x.judge(1, step), 0);
        }
        int[] possible = {10310, 11000, 20020, 30000, 31000, 40021, 41000, 50310, 51000, 60000, 61000, 70000, 71000};
        for (int step : possible) {
            due("step " + step, x.judge(1, step), NONE);
        }
    }

    private static void see() {
        begin(22, TWO);
        due("no proxy 2", x.see(2, 0, 0), UNKNOWN);
        due("no proxy -1", x.see(-1, 0, 0), UNKNOWN);
        due("what 3", x.see(0, 3, 0), OUTSIDE);
        due("what -1", x.see(0, -1, 0), OUTSIDE);
        due("was 2", x.see(0, 0, 2), OUTSIDE);
        due("was -1", x.see(0, 0, -1), OUTSIDE);
        due("UNKNOWN comes before OUTSIDE", x.see(2, 3, 2), UNKNOWN);
        for (int i = 1; i <= 6; i++) {
            due("see", x.see(i % 2, i % 3, i % 2), i);
        }
        due("a seventh", x.see(0, 0, 0), FULL);
        due("UNKNOWN comes before FULL", x.see(2, 0, 0), UNKNOWN);
        due("OUTSIDE comes before FULL", x.see(0, 3, 0), OUTSIDE);
        due("observations", x.count(12), 6);
    }

    private static void unsee() {
        begin(23, TWO);
        due("none", x.unsee(), 0);
        x.see(0, 0, 1);
        x.see(1, 0, 1);
        due("two", x.unsee(), 2);
        due("none", x.count(12), 0);
        due("which", x.which(), -1);
        due("see", x.see(0, 0, 1), 1);
        due("which", x.which(), 6);
    }

    private static void which() {
        begin(24, TWO);
        due("all pages", x.which(), -1);
        x.see(0, 0, 1);
        due("on the shelf", x.which(), 6);
        x.drop(0, 2);
        due("as things are now", x.which(), 2);
        x.unsee();
        x.see(0, 1, 1);
        int cells = 0x02020202 | 0x04040404;
        due("in the summary", x.which(), cells);
        x.see(0, 2, 0);
        due("and not in the filter", x.which(), 0x04040404);
        x.see(0, 0, 0);
        due("and not on the shelf", x.which(), 0x04040404);
        x.see(0, 0, 1);
        due("and on the shelf", x.which(), 0);
        x.unsee();
        x.see(1, 0, 0);
        x.see(1, 2, 1);
        due("not in an empty filter", x.which(), 0);
        x.wipe();
        Check.write(x, "N081h10p33s031");
        x.net();
        due("proxy 1 does not exist any more", x.which(), -1);
        x.see(0, 0, 1);
        due("page 31 is the sign bit", x.which(), LEAST);
        x.wipe();
        Check.write(x, "N081h10p33p33s007s108");
        x.net();
        due("proxy 1 exists again", x.which(), 0);
    }

    private static void shareIs(int proxy, int upper, int lower) {
        due("numerator of " + proxy, x.share(proxy, true), upper);
        due("denominator of " + proxy, x.share(proxy, false), lower);
    }

    private static void share() {
        begin(25, "N041p91p91p91p91s001s002s102s103s202");
        shareIs(0, 4, 3);
        shareIs(1, 4, 3);
        shareIs(2, 1, 3);
        shareIs(3, 0, 1);
        x.ask(3, 3);
        x.ask(3, 2);
        // 1 and a quarter; a quarter and a half.
        shareIs(0, 5, 4);
        shareIs(1, 3, 4);
        shareIs(2, 1, 4);
        shareIs(3, 3, 4);
        x.ask(0, 31);
        shareIs(0, 9, 4);
        due("no proxy 4", x.share(4, true), UNKNOWN);
        due("no proxy -1", x.share(-1, false), UNKNOWN);
        begin(25, "N041p91p91s000s001s100s101");
        shareIs(0, 1, 1);
        begin(25, "N041p91");
        due("no proxy 1", x.share(1, true), UNKNOWN);
        shareIs(0, 0, 1);
    }

    private static void lostIs(int proxy, int page, int tenths, int upper, int lower) {
        String call = "lost " + proxy + " " + page + " " + tenths;
        due(call, x.lost(proxy, page, tenths, true), upper);
        due(call, x.lost(proxy, page, tenths, false), lower);
    }

    private static void lost() {
        begin(26, "N081h10p99p99");
        x.ask(1, 3);
        String before = image();
        lostIs(0, 3, 3, 7, 10);
        lostIs(0, 3, 5, 1, 2);
        lostIs(0, 3, 0, 1, 1);
        lostIs(0, 3, 10, 0, 1);
        lostIs(0, 11, 3, 3, 10);
        lostIs(0, 11, 0, 0, 1);
        lostIs(0, 11, 10, 1, 1);
        lostIs(0, 4, 4, 1, 1);
        lostIs(1, 3, 4, 1, 1);
        x.send(1);
        lostIs(0, 3, 4, 1, 1);
        lostIs(0, 11, 4, 0, 1);
        x.undo();
        Check.that("promise 26: nothing changes", image().equals(before) && x.count(11) == 1);
        due("no proxy 2", x.lost(2, 0, 0, true), UNKNOWN);
        due("no proxy -1", x.lost(-1, 0, 0, true), UNKNOWN);
        due("no page 32", x.lost(0, 32, 0, true), UNKNOWN);
        due("no page -1", x.lost(0, -1, 0, true), UNKNOWN);
        due("x 11", x.lost(0, 0, 11, true), OUTSIDE);
        due("x -1", x.lost(0, 0, -1, false), OUTSIDE);
        due("x 11 for a page of the shelf", x.lost(1, 3, 11, true), OUTSIDE);
        due("UNKNOWN comes before OUTSIDE", x.lost(0, 32, 11, true), UNKNOWN);
        due("UNKNOWN comes before OUTSIDE", x.lost(2, 0, 11, true), UNKNOWN);
    }

    private static void lostOfThree() {
        begin(26, "N081h10p99p99p99p99");
        x.ask(1, 11);
        x.ask(2, 11);
        x.ask(3, 3);
        // Page 3: good only if the messages of 1 and 2 are lost and that of 3 comes.
        lostIs(0, 3, 3, 63, 1000);
        // Page 11: good if 1 or 2 is heard; else 3 is a false hit or the fetch is needless.
        lostIs(0, 11, 3, 91, 100);
        // Page 19: good if nobody is heard.
        lostIs(0, 19, 5, 1, 8);
        lostIs(3, 19, 3, 9, 100);
        x.send(2);
        lostIs(0, 3, 3, 0, 1);
        // Page 11 at proxy 0: 2 always says it now, and 1 has it too.
        lostIs(0, 11, 3, 1, 1);
        begin(26, "N081h10p99");
        lostIs(0, 3, 3, 1, 1);
    }

    private static void seed() {
        begin(27, null);
        due("at first", x.seed(5), 0);
        due("then", x.seed(Long.MIN_VALUE), 5);
        due("then", x.seed(Long.MAX_VALUE), Long.MIN_VALUE);
        due("then", x.seed(-1), Long.MAX_VALUE);
        due("then", x.seed(0), -1);
    }

    private static void drawn() {
        begin(28, "N081h10p99");
        String before = image();
        due("one fetch", x.drawn(1), 5);
        due("the seed", x.seed(0), 1442695040888963407L);
        Check.that("promise 28: nothing else changes", image().equals(before) && x.count(11) == 0);
        // From 0, v is 167953..; the page of the first step is then on the shelf.
        int page = (int) (1442695040888963407L >>> 33) / 8 % 32;
        x.ask(0, page);
        due("no fetch", x.drawn(1), 0);
        due("m 0", x.drawn(0), OUTSIDE);
        due("m 21", x.drawn(21), OUTSIDE);
        due("m -1", x.drawn(-1), OUTSIDE);
        due("an error leaves the seed", x.seed(0), 1442695040888963407L);
        begin(28, null);
        due("without proxies", x.drawn(20), 0);
        long seed = 0;
        for (int i = 0; i < 20; i++) {
            seed = seed * 6364136223846793005L + 1442695040888963407L;
        }
        due("the seed goes on", x.seed(0), seed);
        begin(28, "N081h10p11p11");
        // The threshold is 1: each page that comes costs a message too.
        int cost = 0;
        seed = 0;
        for (int i = 0; i < 8; i++) {
            seed = seed * 6364136223846793005L + 1442695040888963407L;
            int v = (int) (seed >>> 33);
            cost += x.plan(v % 2, 1, v / 8 % 32);
            x.ask(v % 2, v / 8 % 32);
        }
        undoAll();
        due("eight steps", x.drawn(8), cost);
    }

    private static void keep() {
        begin(29, TWO);
        due("slot 0", x.keep(0), 2);
        due("slot 1", x.keep(1), 2);
        due("slot 2", x.keep(2), UNKNOWN);
        due("slot -1", x.keep(-1), UNKNOWN);
        due("slot of the greatest int", x.keep(MOST), UNKNOWN);
        x.ask(0, 5);
        due("keep is no act", x.count(11), 1);
        due("in place of what is there", x.keep(1), 2);
        due("again 0", x.again(0), 2);
        due("as it was", x.proxy(0, 2), 2);
        due("again 1", x.again(1), 2);
        due("as it was then", x.proxy(0, 2), 3);
        begin(29, null);
        due("without proxies", x.keep(0), 0);
        due("without proxies", x.again(0), 0);
    }

    private static void again() {
        begin(30, "N081h10h23p32p33s001s002s103");
        x.ask(0, 4);
        String before = image();
        x.keep(1);
        due("slot 0 is empty", x.again(0), STATE);
        due("slot 2", x.again(2), UNKNOWN);
        due("slot -1", x.again(-1), UNKNOWN);
        due("errors forget no act", x.count(11), 1);
        x.see(0, 0, 1);
        x.seed(4);
        x.write('x');
        for (int i = 0; i < 2; i++) {
            x.use(1);
            x.threshold(0, 9);
            askAll(1, 5, 6, 7, 8);
            x.drop(1, 8);
            Check.that("promise 30: acts change much", !image().equals(before));
            due("again", x.again(1), 2);
            Check.that("promise 30: as it was", image().equals(before));
            due("no acts", x.count(11), 0);
            due("nothing to undo", x.undo(), STATE);
        }
        x.ask(0, 9);
        due("an act can be undone again", x.undo(), 0);
        Check.that("promise 30: as it was", image().equals(before));
        due("observations stay", x.count(12), 1);
        due("the text stays", x.count(0), 29);
        due("the seed stays", x.seed(0), 4);
    }

    private static void count() {
        begin(31, "N113h10h23p33p33p44s001s002s109");
        x.use(1);
        askAll(2, 1, 30);
        x.see(0, 0, 1);
        int[] counts = {31, 3, 2, 11, 3, 1};
        for (int i = 0; i < counts.length; i++) {
            due("count " + i, x.count(i), counts[i]);
        }
        due("pages", x.count(10), 5);
        due("acts", x.count(11), 3);
        due("observations", x.count(12), 1);
        due("13", x.count(13), OUTSIDE);
        due("-1", x.count(-1), OUTSIDE);
        due("the least int", x.count(LEAST), OUTSIDE);
        begin(31, THREE);
        askAll(2, 1, 9, 17);
        counts(5, 3, 1, 2);
    }
}
