/** The edges of what happens: asking, dropping, sending, thresholds, families, undoing. Promises 11 to 16. */
final class ActEdges extends Edge {
    private ActEdges() {
    }

    static void run() {
        askOnOwnShelf();
        askNotItself();
        askAscending();
        askNobodyElse();
        askPastOneThatHasIt();
        askWithRoom();
        askWithoutRoom();
        askedShelfIsFull();
        drops();
        dropNotThere();
        sends();
        thresholdReached();
        thresholdPassed();
        thresholdRange();
        thresholdLowered();
        uses();
        useWithoutProxies();
        actsAreCounted();
        actsEmptyAndFull();
        undoneActsAreGone();
        idleCallsAreActs();
        refusedCallsAreNoActs();
        actsAreForgotten();
        undoRestores();
        lastCall();
    }

    private static void askOnOwnShelf() {
        edge("asking", "if the page is on the shelf of x, it becomes the newest one there, which is no change",
                "N081h10p31p39s000s001s002s100");
        due("the oldest of a full shelf", x.ask(0, 2), 10);
        shelfIs(0, 2, 0, 1);
        due("the middle one", x.ask(0, 0), 10);
        shelfIs(0, 0, 2, 1);
        due("the newest one", x.ask(0, 0), 10);
        shelfIs(0, 0, 2, 1);
        due("number of changes", x.proxy(0, 3), 0);
        counts(0, 0, 0, 0);
        due("the counter", x.counter(0, 0), 1);
        due("the only page of a shelf", x.ask(1, 0), 10);
        shelfIs(1, 0);
    }

    private static void askNotItself() {
        edge("asking", "Otherwise the other proxies [...] are asked", "N081h10p99p99s000");
        x.drop(0, 0);
        due("its own summary has the page", x.says(0, 0, false), 1);
        due("it does not ask itself", x.ask(0, 0), NONE);
        counts(0, 0, 1, 0);
        due("its summary has page 8 too", x.ask(1, 8), NONE);
        counts(1, 1, 2, 0);
    }

    private static void askAscending() {
        // Proxies 0 and 2 have page 0, whose cell is that of page 8; proxies 1 and 3 have page 8.
        String text = "N081h10p99p99p99p99s000s108s200s308";
        edge("asking", "in ascending order, whose summaries contain the page are asked, which is one request each", text);
        due("at proxy 0, page 8", x.ask(0, 8), 1);
        counts(1, 0, 0, 0);
        another(text);
        due("at proxy 2, page 8", x.ask(2, 8), 1);
        counts(2, 1, 0, 0);
        another(text);
        due("at proxy 1, page 0", x.ask(1, 0), 0);
        counts(1, 0, 0, 0);
        another(text);
        due("at proxy 0, page 0 is there", x.ask(0, 0), 10);
        x.drop(0, 0);
        due("at proxy 0, page 0 behind a false hit", x.ask(0, 0), 2);
        counts(2, 1, 0, 0);
        another(text);
        due("at proxy 3, page 16", x.ask(3, 16), NONE);
        counts(3, 3, 1, 0);
        another(text);
        x.drop(1, 8);
        due("the last proxy has it", x.ask(2, 8), 3);
        counts(3, 2, 0, 0);
    }

    private static void askNobodyElse() {
        edge("asking", "If no proxy that was asked has the page, it is fetched", "N081h10p99");
        due("there is no other proxy", x.ask(0, 5), NONE);
        counts(0, 0, 1, 0);
        another("N081h10p99p99");
        x.ask(1, 5);
        due("the other has it, but its summary does not say so", x.ask(0, 5), NONE);
        counts(0, 0, 2, 0);
        x.send(0);
        due("the other says so, but has another page", x.ask(1, 13), NONE);
        counts(1, 1, 3, 1);
    }

    private static void askPastOneThatHasIt() {
        edge("asking", "and no more proxies are asked", "N081h10p99p99p99s008s000s100s108s205");
        due("two have it", x.ask(2, 0), 0);
        counts(1, 0, 0, 0);
        edge("asking", "it becomes the newest one there (it stays there, which is no change)",
                "N081h10p91p91p99s008s000s100s108s205");
        due("two have it", x.ask(2, 0), 0);
        shelfIs(0, 0, 8);
        shelfIs(1, 0, 8);
        due("two have it", x.ask(2, 8), 0);
        shelfIs(0, 8, 0);
        shelfIs(1, 0, 8);
        shelfIs(2, 8, 0, 5);
        due("changes of proxy 0", x.proxy(0, 3), 0);
        due("changes of proxy 1", x.proxy(1, 3), 0);
        due("changes of proxy 2", x.proxy(2, 3), 2);
        counts(2, 0, 0, 0);
    }

    private static void askWithRoom() {
        edge("asking", "Then the page comes to the shelf of x, as the newest one", "N081h10p29s001");
        due("one place is free", x.ask(0, 2), NONE);
        shelfIs(0, 2, 1);
        due("one change", x.proxy(0, 3), 1);
        edge("asking", "if there is no room, the oldest one goes first, which is another change", "N081h10p29s001s002");
        due("no place is free", x.ask(0, 3), NONE);
        shelfIs(0, 3, 1);
        due("two changes", x.proxy(0, 3), 2);
        due("the counter of the page that went", x.counter(0, 2), 0);
        due("the counter of the page that came", x.counter(0, 3), 1);
        due("still no place is free", x.ask(0, 2), NONE);
        shelfIs(0, 2, 3);
        due("four changes", x.proxy(0, 3), 4);
    }

    private static void askWithoutRoom() {
        edge("asking", "the oldest one goes first: a room of 1", "N081h10p19p99s000s109");
        due("the other has it", x.ask(0, 9), 1);
        shelfIs(0, 9);
        due("two changes", x.proxy(0, 3), 2);
        edge("asking", "the oldest one goes first: a room of 9", "N081h10p99");
        askAll(0, 0, 1, 2, 3, 4, 5, 6, 7);
        due("eight changes", x.proxy(0, 3), 8);
        x.ask(0, 8);
        due("the ninth has room", x.proxy(0, 3), 0);
        shelfIs(0, 8, 7, 6, 5, 4, 3, 2, 1, 0);
        x.ask(0, 9);
        due("the tenth has none", x.proxy(0, 3), 2);
        shelfIs(0, 9, 8, 7, 6, 5, 4, 3, 2, 1);
        x.ask(0, 1);
        x.ask(0, 10);
        shelfIs(0, 10, 1, 9, 8, 7, 6, 5, 4, 3);
        edge("asking", "the oldest one goes first: its counter decreases before the other one rises", "N042h10p49");
        askAll(0, 0, 4, 8, 1, 12);
        due("6 less 2, and 2", x.counter(0, 0), 6);
    }

    private static void askedShelfIsFull() {
        edge("asking", "(it stays there, which is no change): a full shelf", "N081h10p11p99s000");
        due("the other one's only page", x.ask(1, 0), 0);
        shelfIs(0, 0);
        shelfIs(1, 0);
        counts(1, 0, 0, 0);
    }

    private static void drops() {
        edge("promise 12", "Returns the number of pages on the shelf then", "N041p99s000s001s002s003s004s005s006s007s031");
        due("the oldest of nine", x.drop(0, 31), 8);
        shelfIs(0, 0, 1, 2, 3, 4, 5, 6, 7);
        due("the newest of eight", x.drop(0, 0), 7);
        due("one in the middle", x.drop(0, 4), 6);
        shelfIs(0, 1, 2, 3, 5, 6, 7);
        for (int page : new int[] {1, 2, 3, 5, 6}) {
            x.drop(0, page);
        }
        due("the last one", x.drop(0, 7), 0);
        shelfIs(0);
        counts(0, 0, 0, 0);
        due("it comes back", x.ask(0, 31), NONE);
        shelfIs(0, 31);
    }

    private static void dropNotThere() {
        edge("promise 12", "STATE if the page is not on its shelf", "N081h10p99p99s000s131");
        due("on no shelf", x.drop(0, 1), STATE);
        due("on another shelf", x.drop(0, 31), STATE);
        due("in the summary only", x.drop(0, 8), STATE);
        due("it is there", x.drop(0, 0), 0);
        due("not any more", x.drop(0, 0), STATE);
        due("an empty shelf", x.drop(0, 31), STATE);
        edge("promise 12", "UNKNOWN if there is no such proxy or page; STATE if", "N081h10p99s000");
        due("no proxy, no such page there", x.drop(1, 5), UNKNOWN);
        due("page 32", x.drop(0, 32), UNKNOWN);
        due("page -1", x.drop(0, -1), UNKNOWN);
        due("page -9", x.drop(0, NONE), UNKNOWN);
    }

    private static void sends() {
        edge("sending", "the number of messages increases by the number of other proxies", "N041p99");
        x.send(0);
        due("one proxy", x.count(9), 0);
        another("N041p99p99");
        x.send(1);
        due("two proxies", x.count(9), 1);
        another("N041p99p99p99p99");
        x.send(3);
        due("four proxies", x.count(9), 3);
        x.send(3);
        due("without a change", x.count(9), 6);
        edge("promise 13", "Returns the summary, as a bit set of cells", "N161h10p99p99s015");
        due("the last cell", x.send(0), 1 << 15);
        due("no cells", x.send(1), 0);
        x.drop(0, 15);
        due("no cells any more", x.send(0), 0);
        edge("sending", "it becomes the set of the cells that its filter has now, the number of changes of the proxy"
                + " becomes 0", "N081h10p99p99");
        x.ask(0, 7);
        x.ask(1, 6);
        due("send", x.send(0), 1 << 7);
        due("the summary", x.proxy(0, 4), 1 << 7);
        due("changes", x.proxy(0, 3), 0);
        due("the other one's summary", x.proxy(1, 4), 0);
        due("the other one's changes", x.proxy(1, 3), 1);
    }

    private static void thresholdReached() {
        for (int t = 1; t <= 9; t++) {
            edge("asking", "each proxy, in ascending order, whose number of changes is at least its threshold sends its"
                    + " summary", "N161h10p9" + t + "p99");
            for (int i = 0; i < t - 1; i++) {
                x.ask(0, i);
            }
            due("changes below " + t, x.proxy(0, 3), t - 1);
            due("messages", x.count(9), 0);
            due("its summary is old", x.proxy(0, 4), 0);
            x.ask(0, 15);
            due("changes at " + t, x.proxy(0, 3), 0);
            due("messages", x.count(9), 1);
            due("its summary is new", x.proxy(0, 4), (1 << (t - 1)) - 1 | 1 << 15);
        }
        edge("dropping", "each proxy, in ascending order, whose number of changes is at least its threshold sends its"
                + " summary", "N161h10p92p99p99s000s001");
        x.drop(0, 0);
        due("below", x.count(9), 0);
        x.drop(0, 1);
        due("reached", x.count(9), 2);
        due("changes", x.proxy(0, 3), 0);
        due("summary", x.proxy(0, 4), 0);
    }

    private static void thresholdPassed() {
        edge("asking", "at least its threshold: passed by two changes at once", "N161h10p23p99s000s001");
        x.ask(0, 2);
        due("two changes", x.proxy(0, 3), 2);
        due("not sent", x.count(9), 0);
        x.ask(0, 3);
        due("four changes", x.proxy(0, 3), 0);
        due("sent once", x.count(9), 1);
        edge("asking", "each proxy: one that only was asked has no changes", "N161h10p91p91p91s000");
        due("proxy 0 has it", x.ask(1, 0), 0);
        due("only proxy 1 sends", x.count(9), 2);
        due("the page of the own shelf needs no message", x.ask(1, 0), 10);
        due("messages", x.count(9), 2);
    }

    private static void thresholdRange() {
        edge("promise 14", "the new threshold, 1 to 9", "N041p95");
        due("1", x.threshold(0, 1), 5);
        due("9", x.threshold(0, 9), 1);
        due("9 again", x.threshold(0, 9), 9);
        due("then", x.proxy(0, 1), 9);
        edge("promise 14", "OUTSIDE if t is out of range", "N041p95");
        for (int t : new int[] {0, 10, -1, 256 + 1, LEAST, MOST}) {
            due("threshold " + t, x.threshold(0, t), OUTSIDE);
        }
        due("it stays", x.proxy(0, 1), 5);
    }

    private static void thresholdLowered() {
        edge("thresholds", "after a threshold is set, each proxy, in ascending order, whose number of changes is at least"
                + " its threshold sends its summary", "N081h10p95p99");
        askAll(0, 0, 1, 2);
        due("one above the changes", x.threshold(0, 4), 5);
        due("not sent", x.proxy(0, 3), 3);
        due("as many as the changes", x.threshold(0, 3), 4);
        due("sent", x.proxy(0, 3), 0);
        due("one message", x.count(9), 1);
        due("the summary", x.proxy(0, 4), 7);
        askAll(0, 3, 4);
        due("one below the changes", x.threshold(0, 1), 3);
        due("sent", x.proxy(0, 3), 0);
        due("messages", x.count(9), 2);
        due("without changes", x.threshold(0, 1), 1);
        due("no message", x.count(9), 2);
        askAll(1, 0, 1);
        due("the other one's changes", x.proxy(1, 3), 2);
        due("its own threshold is not reached", x.threshold(0, 2), 1);
        due("so they stay", x.proxy(1, 3), 2);
    }

    private static void uses() {
        edge("families", "To use a family (perhaps the present one)", "N041h10h21h32p99p99p99p99s000");
        x.ask(1, 5);
        due("the present one", x.use(0), 0);
        due("all changes are 0", x.proxy(1, 3), 0);
        due("all summaries are sent", x.proxy(1, 4), 2);
        due("12 messages", x.count(9), 12);
        due("the last one", x.use(2), 0);
        due("the first one", x.use(0), 2);
        due("the second one", x.use(1), 0);
        due("the present one", x.count(5), 1);
        due("48 messages", x.count(9), 48);
        edge("families", "all proxies, in ascending order, send their summaries: one alone", "N041p99");
        due("use", x.use(0), 0);
        due("messages", x.count(9), 0);
        edge("promise 15", "UNKNOWN if there is no such family", "N041h10h20p11");
        for (int family : new int[] {2, 3, -1, 256, LEAST, MOST}) {
            due("use " + family, x.use(family), UNKNOWN);
        }
        due("the present one", x.count(5), 0);
        due("no act", x.count(11), 0);
    }

    private static void useWithoutProxies() {
        edge("promise 15", "Uses a family: there are no proxies", null);
        due("use", x.use(0), 0);
        counts(0, 0, 0, 0);
        due("an act", x.count(11), 1);
        due("undo", x.undo(), 0);
        due("family 1", x.use(1), UNKNOWN);
        another("N041h10h20");
        due("use the second", x.use(1), 0);
        due("the present one", x.count(5), 1);
        due("undo", x.undo(), 0);
        due("the present one", x.count(5), 0);
    }

    private static void actsAreCounted() {
        edge("promise 16", "The last 14 acts can be undone", "N041p99");
        for (int acts = 1; acts <= 30; acts++) {
            x.send(0);
            due("acts behind " + acts, x.count(11), Math.min(acts, 14));
        }
    }

    private static void actsEmptyAndFull() {
        for (int acts : new int[] {0, 1, 13, 14, 15, 27, 28, 29}) {
            edge("promise 16", "Returns how many acts can still be undone; STATE if there is none", "N041h10p99p99");
            for (int i = 0; i < acts; i++) {
                x.ask(0, i);
            }
            int kept = Math.min(acts, 14);
            for (int left = kept - 1; left >= 0; left--) {
                due("undo of " + acts, x.undo(), left);
                due("acts that can be undone", x.count(11), left);
                due("fetches", x.count(8), acts - kept + left);
            }
            due("undo of nothing", x.undo(), STATE);
            due("fetches of the acts before the last 14", x.count(8), acts - kept);
            due("acts", x.count(11), 0);
            due("undo of nothing again", x.undo(), STATE);
        }
    }

    private static void undoneActsAreGone() {
        edge("promise 16", "the latest act that can be undone and is not undone yet", "N041p99");
        x.threshold(0, 1);
        x.threshold(0, 2);
        x.undo();
        due("the first act stays", x.proxy(0, 1), 1);
        x.threshold(0, 3);
        due("acts", x.count(11), 2);
        due("undo of the third", x.undo(), 1);
        due("it was set after the first", x.proxy(0, 1), 1);
        due("undo of the first", x.undo(), 0);
        due("as at first", x.proxy(0, 1), 9);
        due("the second is undone already", x.undo(), STATE);
        edge("promise 16", "The last 14 acts can be undone: full, one undone, one more", "N041p99");
        for (int i = 0; i < 14; i++) {
            x.ask(0, i);
        }
        due("undo", x.undo(), 13);
        x.ask(0, 20);
        due("full again", x.count(11), 14);
        x.ask(0, 21);
        due("full still", x.count(11), 14);
        for (int left = 13; left >= 0; left--) {
            due("undo", x.undo(), left);
        }
        due("the first one stays", x.proxy(0, 7), 1);
    }

    private static void idleCallsAreActs() {
        edge("promise 16", "Each successful call of ask(), drop(), send(), threshold() and use() is an act", "N041p99s000");
        x.ask(0, 0);
        due("an ask for the newest page", x.count(11), 1);
        x.send(0);
        due("a summary as it was", x.count(11), 2);
        x.threshold(0, 9);
        due("the same threshold", x.count(11), 3);
        x.use(0);
        due("the present family", x.count(11), 4);
        x.drop(0, 0);
        due("a drop", x.count(11), 5);
        due("undo of the drop", x.undo(), 4);
        shelfIs(0, 0);
        for (int left = 3; left >= 0; left--) {
            due("undo of what did nothing", x.undo(), left);
        }
    }

    private static void refusedCallsAreNoActs() {
        edge("promise 16", "Each successful call [...] is an act: refused calls are none", "N041p99s000");
        x.threshold(0, 8);
        x.ask(0, 32);
        x.ask(1, 0);
        x.drop(0, 1);
        x.drop(0, 32);
        x.drop(1, 0);
        x.send(1);
        x.threshold(0, 10);
        x.threshold(1, 1);
        x.use(1);
        due("acts", x.count(11), 1);
        due("undo", x.undo(), 0);
        due("of the only act", x.proxy(0, 1), 9);
    }

    private static void actsAreForgotten() {
        edge("promise 5", "no act can be undone", "N041p99");
        for (int i = 0; i < 15; i++) {
            x.send(0);
        }
        x.net();
        due("acts", x.count(11), 0);
        due("undo", x.undo(), STATE);
        x.send(0);
        due("a new act", x.undo(), 0);
        edge("promise 5", "A call that returns an error changes nothing: a net that is refused", "N041p99");
        x.send(0);
        x.write('x');
        due("net", x.net(), STATE);
        due("acts", x.count(11), 1);
        due("undo", x.undo(), 0);
        edge("promise 30", "No act can be undone then", "N041p99");
        x.keep(0);
        x.send(0);
        due("an empty slot", x.again(1), STATE);
        due("acts behind it", x.count(11), 1);
        due("a full slot", x.again(0), 1);
        due("acts behind it", x.count(11), 0);
        due("undo", x.undo(), STATE);
    }

    private static void undoRestores() {
        edge("promise 16", "shelves, counters, summaries, numbers of changes, thresholds, the present family and the"
                + " counts become as they were before it", null);
        for (int i = 0; i < 6; i++) {
            another("N042h10h23p22p99p35s000s004s100s208");
            for (int j = 0; j < i; j++) {
                actNumber(j);
            }
            String before = Image.ofNet(x);
            actNumber(i);
            holds("act " + i + " changes something", !Image.ofNet(x).equals(before));
            due("undo of act " + i, x.undo(), i);
            holds("act " + i + " is undone", Image.ofNet(x).equals(before));
        }
    }

    private static void actNumber(int i) {
        switch (i) {
            case 0: x.ask(2, 0); break;
            case 1: x.ask(0, 12); break;
            case 2: x.drop(2, 8); break;
            case 3: x.send(2); break;
            case 4: x.threshold(1, 1); break;
            default: x.use(1); break;
        }
    }

    private static void lastCall() {
        edge("the object", "An object is used for at most 512 calls", null);
        Check.write(x, "N041h10p99p99");
        x.net();
        for (int call = 15; call <= 497; call++) {
            int page = call % 32;
            due("ask as call " + call, x.ask(0, page), NONE);
        }
        for (int call = 498; call <= 511; call++) {
            due("undo as call " + call, x.undo(), 511 - call);
        }
        due("fetches, as call 512", x.count(8), 483 - 14);
    }
}
