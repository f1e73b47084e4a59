/** The edges of the text: how it is written, its faults and its net. Promises 2 to 5 and "The text". */
final class TextEdges extends Edge {
    /** 100 characters without a fault: 4 proxies with room 9, 21 pages. */
    private static final String LONGEST = longest();

    private TextEdges() {
    }

    static void run() {
        letterOutside();
        textFull();
        textEmptied();
        faultOfHead();
        faultOfFamilies();
        faultOfProxies();
        faultWithoutRoom();
        faultOfProxyDigit();
        faultOfFirstDigit();
        faultOfSecondDigit();
        textEndsTooEarly();
        faultIsTheFirst();
        fullTextFaults();
        onlyFamily();
        netOfFault();
        netOfEachSize();
        netBeginsAnew();
        netLeaves();
    }

    private static String longest() {
        StringBuilder text = new StringBuilder("N041p91p91p91p91");
        for (int i = 0; i < 21; i++) {
            text.append('s').append(i / 9).append(1).append(i % 9);
        }
        return text.toString();
    }

    private static void faultIs(String text, int fault) {
        due("fault of " + text, Check.withText(text).fault(), fault);
    }

    /** The characters that are not allowed behind a beginning have its length as their fault, the others not. */
    private static void allowedBehind(String start, String allowed) {
        for (int letter = 0; letter <= 255; letter++) {
            x = Check.withText(start);
            x.write(letter);
            boolean refused = x.fault() == start.length();
            boolean fine = allowed.indexOf((char) letter) >= 0;
            holds("letter " + letter + " behind " + start, refused != fine);
        }
    }

    private static void letterOutside() {
        edge("promise 2", "its code, 0 to 255", null);
        due("write(0)", x.write(0), 1);
        due("write(255)", x.write(255), 2);
        edge("promise 2", "OUTSIDE if letter is out of range", null);
        for (int letter : new int[] {-1, 256, 256 + 'N', 65536 + 'N', -256 + 'N', LEAST, MOST}) {
            due("write(" + letter + ")", x.write(letter), OUTSIDE);
        }
        due("length", x.count(0), 0);
        due("write('N') behind them", x.write('N'), 1);
        due("fault", x.fault(), 1);
    }

    private static void textFull() {
        edge("promise 2", "FULL if there are 100 characters", null);
        for (int i = 1; i <= 99; i++) {
            x.write('a');
        }
        due("length", x.count(0), 99);
        due("the hundredth", x.write('a'), 100);
        due("one more", x.write('a'), FULL);
        due("0 more", x.write(0), FULL);
        due("255 more", x.write(255), FULL);
        due("length", x.count(0), 100);
        edge("promise 2", "OUTSIDE if letter is out of range; FULL if there are 100 characters", null);
        Check.write(x, LONGEST);
        due("write(256)", x.write(256), OUTSIDE);
        due("write(-1)", x.write(-1), OUTSIDE);
        edge("promise 2", "A call that returns an error changes nothing", null);
        Check.write(x, LONGEST);
        x.write('x');
        due("fault of a full text", x.fault(), NONE);
    }

    private static void textEmptied() {
        edge("promise 3", "Returns the length that it had", null);
        due("wipe of an empty text", x.wipe(), 0);
        x.write('N');
        due("wipe of one character", x.wipe(), 1);
        due("wipe again", x.wipe(), 0);
        Check.write(x, LONGEST);
        due("wipe of a full text", x.wipe(), 100);
        edge("promise 3", "Empties the text", null);
        Check.write(x, LONGEST);
        x.wipe();
        due("length", x.count(0), 0);
        due("fault", x.fault(), 0);
        Check.write(x, "N041");
        due("length of a new text", x.count(0), 4);
        due("fault of a new text", x.fault(), NONE);
    }

    private static void faultOfHead() {
        edge("the text", "the letter N", null);
        allowedBehind("", "N");
        edge("the text", "two digits for M (04 to 16)", null);
        allowedBehind("N", "01");
        allowedBehind("N0", "456789");
        allowedBehind("N1", "0123456");
        edge("the text", "one digit for K (1 to 3)", null);
        allowedBehind("N04", "123");
        allowedBehind("N16", "123");
        edge("the text", "followed by any number of parts", null);
        faultIs("N041", NONE);
        faultIs("N163", NONE);
        allowedBehind("N041", "hp");
        allowedBehind("N041p11", "hps");
    }

    private static void faultOfFamilies() {
        edge("the text", "the next family, with the digits A (1 to 9) and B (0 to 9)", null);
        allowedBehind("N041h", "123456789");
        allowedBehind("N041h1", "0123456789");
        allowedBehind("N041h9", "0123456789");
        edge("the text", "at most 3 times / also an h behind three of them", null);
        faultIs("N041h10h20h30", NONE);
        allowedBehind("N041h10h20", "hp");
        allowedBehind("N041h10h20h30", "p");
        faultIs("N041h10h20h30h", 13);
        faultIs("N041h10h20h30h40", 13);
        faultIs("N041p11h10p11h20p11h30p11h40", 25);
    }

    private static void faultOfProxies() {
        edge("the text", "the next proxy, with the digits R, its room (1 to 9), and T, its threshold (1 to 9)", null);
        allowedBehind("N041p", "123456789");
        allowedBehind("N041p1", "123456789");
        allowedBehind("N041p9", "123456789");
        edge("the text", "at most 4 times / a p behind four of them", null);
        faultIs("N041p11p22p88p99", NONE);
        allowedBehind("N041p11p22p33", "hps");
        allowedBehind("N041p11p22p33p99", "hs");
        faultIs("N041p11p22p33p99p", 16);
        faultIs("N041p11p22p33p99p11", 16);
        faultIs("N041p11s000p22h10p33p99p11", 23);
    }

    private static void faultWithoutRoom() {
        edge("the text", "an s if no proxy has room", null);
        allowedBehind("N041", "hp");
        allowedBehind("N041p11s000", "hp");
        allowedBehind("N041p11p11s000s100", "hp");
        allowedBehind("N041p11p11p11p11s000s100s200s300", "h");
        allowedBehind("N041p11p11p11p11s000s100s200", "hs");
        allowedBehind("N041p11p11p11p11s300s200s100", "hs");
        allowedBehind("N041p11s000p11", "hps");
        String nine = "N041p91s000s001s002s003s004s005s006s007";
        allowedBehind(nine, "hps");
        allowedBehind(nine + "s008", "hp");
        faultIs(nine + "s008s009", 43);
    }

    private static void faultOfProxyDigit() {
        edge("the text", "the digit X of a proxy that does not exist or has no room", null);
        allowedBehind("N041p11s", "0");
        allowedBehind("N041p11p11s", "01");
        allowedBehind("N041p11p11p11s", "012");
        allowedBehind("N041p11p11p11p11s", "0123");
        allowedBehind("N041p11p21p11s000s100s", "12");
        allowedBehind("N041p21p11p11s000s100s", "02");
        allowedBehind("N041p11p11p11p11s000s100s200s", "3");
        edge("the text", "whose part p is earlier in the text", null);
        faultIs("N041p11s100p11", 8);
        faultIs("N041p11p11s100", NONE);
    }

    private static void faultOfFirstDigit() {
        edge("the text", "the first digit of PP if there is no page that begins with it and is allowed", null);
        allowedBehind("N041p91s0", "0123");
        allowedBehind("N041p91s030s0", "0123");
        allowedBehind("N041p91s031s0", "0123");
        allowedBehind("N041p91s030s031s0", "012");
        allowedBehind("N041p91s031s030s0", "012");
        allowedBehind("N041p91p91s030s031s1", "0123");
        allowedBehind("N041p91p91s030s131s0", "0123");
        allowedBehind("N041p91s000s001s002s003s004s005s006s007s0", "0123");
    }

    private static void faultOfSecondDigit() {
        edge("the text", "the page PP (two digits, 00 to 31) / the second digit if the page is not allowed", null);
        allowedBehind("N041p91s00", "0123456789");
        allowedBehind("N041p91s01", "0123456789");
        allowedBehind("N041p91s02", "0123456789");
        allowedBehind("N041p91s03", "01");
        edge("the text", "which is not on it already", null);
        allowedBehind("N041p91s000s00", "123456789");
        allowedBehind("N041p91s009s00", "012345678");
        allowedBehind("N041p91s009s01", "0123456789");
        allowedBehind("N041p91s010s00", "0123456789");
        allowedBehind("N041p91s029s02", "012345678");
        allowedBehind("N041p91s030s03", "1");
        allowedBehind("N041p91s031s03", "0");
        allowedBehind("N041p91p91s000s031s10", "0123456789");
        allowedBehind("N041p91p91s000s031s13", "01");
    }

    private static void textEndsTooEarly() {
        edge("the text", "It is the length of the text if the text ends too early", null);
        String text = "N163h19p91p22s031s109";
        boolean[] whole = new boolean[text.length() + 1];
        for (int length : new int[] {4, 7, 10, 13, 17, 21}) {
            whole[length] = true;
        }
        for (int length = 0; length < whole.length; length++) {
            faultIs(text.substring(0, length), whole[length] ? NONE : length);
        }
        edge("promise 4", "Returns the fault; NONE if there is none", null);
        due("fault of an empty text", x.fault(), 0);
        x.write('N');
        due("fault of N", x.fault(), 1);
        due("it is only returned", x.fault(), 1);
    }

    private static void faultIsTheFirst() {
        edge("the text", "The text is read from left to right. Its fault is the position (from 0) of the first character"
                + " that is not allowed there", null);
        faultIs("x", 0);
        faultIs("xN041", 0);
        faultIs("N031x", 2);
        faultIs("N041xp01", 4);
        faultIs("N041p01h01", 5);
        faultIs("N041h10x", 7);
        faultIs("N041p11s032s0", 10);
        faultIs("N041s000p11", 4);
        faultIs("N041 p11", 4);
        faultIs("N041p11N041", 7);
    }

    private static void fullTextFaults() {
        edge("the text", "The text has at most 100 characters", null);
        due("characters", LONGEST.length(), 100);
        faultIs(LONGEST, NONE);
        due("net", Check.withText(LONGEST).net(), 4);
        faultIs(LONGEST.substring(0, 99), 99);
        faultIs(LONGEST.substring(0, 99) + "x", 99);
        faultIs("N041h10" + LONGEST.substring(4, 97), 100);
        faultIs("N041h10" + LONGEST.substring(4, 96) + "x", 99);
        x = Check.withText(LONGEST);
        x.write('x');
        due("the character 101 is no fault", x.fault(), NONE);
    }

    private static void onlyFamily() {
        edge("the text", "If there is no part h, the only family has A = 1 and B = 1", "N163p11");
        due("families", x.count(2), 1);
        due("31 + 9 = 40", x.hash(0, 31, 2), 3);
        due("no second one", x.hash(1, 0, 0), UNKNOWN);
        another("N163h29");
        due("families with one part h", x.count(2), 1);
        due("2 * 31 + 9 * 9 = 143", x.hash(0, 31, 2), 0);
        due("no second one", x.hash(1, 0, 0), UNKNOWN);
        another("N163h29h10h11");
        due("families with three parts h", x.count(2), 3);
        due("the last one", x.hash(2, 31, 2), 3);
    }

    private static void netOfFault() {
        edge("promise 5", "STATE if the text has a fault", null);
        due("net of an empty text", x.net(), STATE);
        Check.write(x, "N041p1");
        due("net of a text that ends too early", x.net(), STATE);
        x.write('1');
        due("net of a whole text", x.net(), 1);
        x.write('x');
        due("net of a text with one character more", x.net(), STATE);
        due("M stays", x.count(3), 4);
        due("the proxy stays", x.proxy(0, 0), 1);
        edge("promise 5", "STATE if the text has a fault", null);
        Check.write(x, "N041h10h20h30h40");
        due("net of a text with its fault at a fourth h", x.net(), STATE);
    }

    private static void netOfEachSize() {
        edge("promise 5", "Returns the number of proxies", null);
        StringBuilder text = new StringBuilder("N041");
        for (int size = 0; size <= 4; size++) {
            due("net of " + text, Check.withText(text.toString()).net(), size);
            text.append("p11");
        }
        edge("the text", "it is older than the pages that are on it so far", "N041p91p31s007s100s003s131s009s114");
        shelfIs(0, 7, 3, 9);
        shelfIs(1, 0, 31, 14);
        edge("the text", "its room (1 to 9)", "N041p11p91s031s100s101s102s103s104s105s106s107s108");
        shelfIs(0, 31);
        shelfIs(1, 0, 1, 2, 3, 4, 5, 6, 7, 8);
    }

    private static void netBeginsAnew() {
        edge("promise 5", "Replaces everything by the net of the text", "N042h10h11p99p22s000s004s008s012");
        due("a counter is 7", x.counter(0, 0), 7);
        x.drop(0, 0);
        x.drop(0, 4);
        x.ask(1, 30);
        x.threshold(1, 9);
        x.use(1);
        due("net of the same text", x.net(), 2);
        due("the present family is 0", x.count(5), 0);
        due("all filters are rebuilt", x.counter(0, 0), 7);
        due("as are those of empty shelves", x.counter(1, 2), 0);
        due("all summaries are those of the filters", x.proxy(0, 4), 1);
        due("as are those of empty filters", x.proxy(1, 4), 0);
        due("numbers of changes", x.proxy(0, 3) + x.proxy(1, 3), 0);
        due("thresholds", x.proxy(1, 1), 2);
        counts(0, 0, 0, 0);
        due("no act can be undone", x.undo(), STATE);
        x.wipe();
        Check.write(x, "N163p11");
        due("net with fewer proxies", x.net(), 1);
        due("no proxy 1", x.proxy(1, 0), UNKNOWN);
        shelfIs(0);
        due("no family 1", x.use(1), UNKNOWN);
        for (int cell = 0; cell < 16; cell++) {
            due("counter " + cell, x.counter(0, cell), 0);
        }
        x.wipe();
        Check.write(x, "N041");
        due("net without proxies", x.net(), 0);
        due("no proxy 0", x.proxy(0, 0), UNKNOWN);
    }

    private static void netLeaves() {
        edge("promise 5", "all slots are empty", "N041p11");
        x.keep(0);
        x.keep(1);
        x.net();
        due("slot 0", x.again(0), STATE);
        due("slot 1", x.again(1), STATE);
        edge("promise 5", "The text, the observations and the seed stay", "N041p11");
        for (int i = 0; i < 6; i++) {
            x.see(0, 0, 1);
        }
        x.seed(Long.MIN_VALUE);
        x.net();
        due("the text", x.count(0), 7);
        due("the observations", x.count(12), 6);
        due("the seed", x.seed(0), Long.MIN_VALUE);
    }
}
