import java.util.Arrays;

/**
 * "A call that returns an error changes nothing", and "All other methods leave proxies, families and counts as they
 * are". Two objects are made alike; one of them gets the call; then all that they hold is compared.
 */
final class RefusalEdges extends Edge {
    private static final String NET = "N042h10h23p22p33p19s001s002s103";

    private interface Call {
        long on(ShelfFilters object);
    }

    private RefusalEdges() {
    }

    static void run() {
        refusedTexts();
        refusedQuestions();
        refusedRows();
        refusedActs();
        refusedSlots();
        refusedWithoutActs();
        refusedWithoutProxies();
        textsChangeTextsAlone();
        questionsChangeNothing();
        othersChangeTheirOwn();
        actsLeaveTheRest();
    }

    /** An object with acts, observations, a seed and one full slot; if full, no more fits into it. */
    private static ShelfFilters busy(boolean full) {
        ShelfFilters object = Check.net(NET);
        object.see(0, 0, 0);
        object.see(1, 1, 0);
        object.seed(77);
        object.ask(0, 3);
        object.keep(0);
        object.use(1);
        object.threshold(2, 5);
        object.drop(1, 3);
        object.ask(2, 30);
        object.ask(1, 1);
        if (full) {
            fill(object);
        }
        return object;
    }

    private static void fill(ShelfFilters object) {
        for (int i = 31; i < 100; i++) {
            object.write('x');
        }
        for (int i = 2; i < 6; i++) {
            object.see(2, 0, 0);
        }
        for (int i = 6; i < 15; i++) {
            object.ask(i % 3, 2 * i);
        }
    }

    /** Compares all parts of two objects but those that the call may change. */
    private static void same(String call, ShelfFilters one, ShelfFilters other, int... changing) {
        String[] left = Image.whole(one);
        String[] right = Image.whole(other);
        for (int part : changing) {
            left[part] = "";
            right[part] = "";
        }
        for (int part = 0; part < Image.PARTS; part++) {
            holds(call + " leaves part " + part, left[part].equals(right[part]));
        }
    }

    private static void refused(String name, long error, boolean full, Call call) {
        edge("errors", "A call that returns an error changes nothing", null);
        ShelfFilters object = busy(full);
        due(name, call.on(object), error);
        same(name, object, busy(full));
    }

    private static void refused(String name, long error, Call call) {
        refused(name, error, false, call);
        refused(name + ", all being full", error, true, call);
    }

    private static void refusedTexts() {
        refused("write(256)", OUTSIDE, y -> y.write(256));
        refused("write(-1)", OUTSIDE, y -> y.write(-1));
        refused("write, 100 characters", FULL, true, y -> y.write('x'));
        refused("net of a text with a fault", STATE, true, y -> y.net());
    }

    private static void refusedQuestions() {
        refused("proxy(3, 0)", UNKNOWN, y -> y.proxy(3, 0));
        refused("proxy(0, 8)", OUTSIDE, y -> y.proxy(0, 8));
        refused("page(3, 0)", UNKNOWN, y -> y.page(3, 0));
        refused("page(0, 9)", OUTSIDE, y -> y.page(0, 9));
        refused("counter(0, 4)", UNKNOWN, y -> y.counter(0, 4));
        refused("hash(2, 0, 0)", UNKNOWN, y -> y.hash(2, 0, 0));
        refused("hash(0, 0, 2)", OUTSIDE, y -> y.hash(0, 0, 2));
        refused("says(0, 32, true)", UNKNOWN, y -> y.says(0, 32, true));
        refused("weight(3)", UNKNOWN, y -> y.weight(3));
        refused("best(3, 0)", UNKNOWN, y -> y.best(3, 0));
        refused("best(0, 2)", OUTSIDE, y -> y.best(0, 2));
        refused("share(3, true)", UNKNOWN, y -> y.share(3, true));
        refused("lost(0, 32, 0, true)", UNKNOWN, y -> y.lost(0, 32, 0, true));
        refused("lost(0, 0, 11, true)", OUTSIDE, y -> y.lost(0, 0, 11, true));
        refused("count(13)", OUTSIDE, y -> y.count(13));
    }

    private static void refusedRows() {
        refused("plan(3, 1, 0)", UNKNOWN, y -> y.plan(3, 1, 0));
        refused("plan(0, 5, 0)", OUTSIDE, y -> y.plan(0, 5, 0));
        refused("plan(0, 1, 100)", OUTSIDE, y -> y.plan(0, 1, 100));
        refused("plan(0, 4, 10203032)", UNKNOWN, y -> y.plan(0, 4, 10203032));
        refused("order(3, 1, 0)", UNKNOWN, y -> y.order(3, 1, 0));
        refused("order(0, 63, 0)", OUTSIDE, y -> y.order(0, 63, 0));
        refused("order(0, 7, -2)", OUTSIDE, y -> y.order(0, 7, -2));
        refused("judge(4, 0)", OUTSIDE, y -> y.judge(4, 0));
        refused("judge(1, 100000)", OUTSIDE, y -> y.judge(1, 100000));
        refused("drawn(0)", OUTSIDE, y -> y.drawn(0));
        refused("drawn(21)", OUTSIDE, y -> y.drawn(21));
        refused("see(3, 0, 0)", UNKNOWN, y -> y.see(3, 0, 0));
        refused("see(0, 3, 0)", OUTSIDE, y -> y.see(0, 3, 0));
        refused("see(0, 0, 2)", OUTSIDE, y -> y.see(0, 0, 2));
        refused("see, 6 observations", FULL, true, y -> y.see(0, 0, 1));
    }

    private static void refusedActs() {
        refused("ask(3, 0)", UNKNOWN, y -> y.ask(3, 0));
        refused("ask(-1, 0)", UNKNOWN, y -> y.ask(-1, 0));
        refused("ask(0, 32)", UNKNOWN, y -> y.ask(0, 32));
        refused("ask(0, -1)", UNKNOWN, y -> y.ask(0, -1));
        refused("drop(3, 0)", UNKNOWN, y -> y.drop(3, 0));
        refused("drop(0, 32)", UNKNOWN, y -> y.drop(0, 32));
        refused("drop of a page that is not there", STATE, y -> y.drop(0, 31));
        refused("send(3)", UNKNOWN, y -> y.send(3));
        refused("send(-1)", UNKNOWN, y -> y.send(-1));
        refused("threshold(3, 1)", UNKNOWN, y -> y.threshold(3, 1));
        refused("threshold(0, 0)", OUTSIDE, y -> y.threshold(0, 0));
        refused("threshold(0, 10)", OUTSIDE, y -> y.threshold(0, 10));
        refused("use(2)", UNKNOWN, y -> y.use(2));
        refused("use(-1)", UNKNOWN, y -> y.use(-1));
    }

    private static void refusedSlots() {
        refused("keep(2)", UNKNOWN, y -> y.keep(2));
        refused("keep(-1)", UNKNOWN, y -> y.keep(-1));
        refused("again(2)", UNKNOWN, y -> y.again(2));
        refused("again(-1)", UNKNOWN, y -> y.again(-1));
        refused("again of an empty slot", STATE, y -> y.again(1));
    }

    /** A call on an object with the net of the text alone. */
    private static void refusedOn(String text, String name, long error, Call call) {
        edge("errors", "A call that returns an error changes nothing", text);
        due(name, call.on(x), error);
        ShelfFilters changed = x;
        another(text);
        same(name, changed, x);
    }

    private static void refusedWithoutActs() {
        refusedOn(NET, "undo", STATE, y -> y.undo());
        refusedOn(NET, "again(0)", STATE, y -> y.again(0));
        refusedOn(NET, "drop", STATE, y -> y.drop(2, 0));
    }

    private static void refusedWithoutProxies() {
        refusedOn(null, "net", STATE, y -> y.net());
        refusedOn(null, "undo", STATE, y -> y.undo());
        refusedOn(null, "ask", UNKNOWN, y -> y.ask(0, 0));
        refusedOn(null, "drop", UNKNOWN, y -> y.drop(0, 0));
        refusedOn(null, "send", UNKNOWN, y -> y.send(0));
        refusedOn(null, "threshold", UNKNOWN, y -> y.threshold(0, 1));
        refusedOn(null, "use", UNKNOWN, y -> y.use(1));
        refusedOn(null, "see", UNKNOWN, y -> y.see(0, 0, 0));
        refusedOn(null, "drawn", OUTSIDE, y -> y.drawn(0));
        refusedOn(null, "again", STATE, y -> y.again(0));
        refusedOn(null, "write", OUTSIDE, y -> y.write(256));
    }

    /** The call must have no error, and change the parts given alone. */
    private static void changes(String name, Call call, int... parts) {
        edge("what happens", "All other methods leave proxies, families and counts as they are", null);
        ShelfFilters object = busy(false);
        long answer = call.on(object);
        holds(name + " is no error: " + answer, answer >= 0 || answer == NONE || name.equals("which"));
        same(name, object, busy(false), parts);
    }

    private static void textsChangeTextsAlone() {
        changes("write", y -> y.write('x'), Image.TEXT);
        changes("wipe", y -> y.wipe(), Image.TEXT);
        changes("fault", y -> y.fault());
        changes("wipe, then another net's text", y -> {
            y.wipe();
            Check.write(y, "N161h77p11s031");
            return y.fault();
        }, Image.TEXT);
    }

    private static void questionsChangeNothing() {
        changes("proxy", y -> y.proxy(0, 5));
        changes("page", y -> y.page(0, 0));
        changes("counter", y -> y.counter(0, 0));
        changes("hash", y -> y.hash(0, 31, 1));
        changes("says", y -> y.says(0, 31, true));
        changes("weight", y -> y.weight(0));
        changes("best", y -> y.best(0, 0));
        changes("plan, a shelf without room", y -> y.plan(0, 4, 4050607));
        changes("plan, messages", y -> y.plan(2, 4, 4050607));
        changes("order, the cost", y -> y.order(1, 31 << 27, -1));
        changes("order, a page", y -> y.order(0, 31, 4));
        changes("judge, acts", y -> y.judge(3, 100903000070000L));
        changes("judge, an impossible step behind an act", y -> y.judge(2, 1009099999L));
        changes("which", y -> y.which());
        changes("share", y -> y.share(0, true));
        changes("lost", y -> y.lost(0, 31, 5, true));
        changes("lost, a page of another", y -> y.lost(0, 30, 5, false));
        changes("count", y -> y.count(11));
    }

    private static void othersChangeTheirOwn() {
        changes("see", y -> y.see(0, 0, 0), Image.SEEN);
        changes("unsee", y -> y.unsee(), Image.SEEN);
        changes("seed", y -> y.seed(5), Image.SEED);
        changes("drawn", y -> y.drawn(20), Image.SEED);
        changes("keep(0)", y -> y.keep(0), Image.FIRST_SLOT, Image.SEEN);
        changes("keep(1)", y -> y.keep(1), Image.SECOND_SLOT);
    }

    /** Acts change the net and the acts that can be undone, but neither text nor observations, seed nor slots. */
    private static void actsLeaveTheRest() {
        changes("ask", y -> y.ask(0, 20), Image.NET, Image.ACTS);
        changes("drop", y -> y.drop(2, 30), Image.NET, Image.ACTS);
        changes("send", y -> y.send(0), Image.NET, Image.ACTS);
        changes("threshold", y -> y.threshold(0, 9), Image.NET, Image.ACTS);
        changes("use", y -> y.use(0), Image.NET, Image.ACTS);
        changes("undo", y -> y.undo(), Image.NET, Image.ACTS);
        edge("what happens", "the two objects that are compared are alike", null);
        holds("busy", Arrays.equals(Image.whole(busy(true)), Image.whole(busy(true))));
        holds("and the image tells acts", !Image.whole(busy(true))[Image.ACTS].equals(Image.whole(busy(false))[Image.ACTS]));
    }
}
