/** What the tests of edges share: the object that they call, and the sentence of the document that a check is about. */
abstract class Edge {
    static final int UNKNOWN = -1, OUTSIDE = -2, STATE = -3, FULL = -4, NONE = -9;
    static final int LEAST = Integer.MIN_VALUE, MOST = Integer.MAX_VALUE;

    static ShelfFilters x = null;
    private static String about = "";

    /** Begins the test of a sentence with a new object, whose net is that of the text (null for no net). */
    static void edge(String place, String sentence, String text) {
        about = place + ", \"" + sentence + "\": ";
        another(text);
    }

    /** Goes on with a new object for the same sentence. */
    static void another(String text) {
        x = text == null ? new ShelfFilters() : Check.net(text);
    }

    static void due(String call, long got, long due) {
        Check.same(about + call, got, due);
    }

    static void holds(String what, boolean isSo) {
        Check.that(about + what, isSo);
    }

    /** Asks for pages whatever the answers are. */
    static void askAll(int proxy, int... pages) {
        for (int page : pages) {
            x.ask(proxy, page);
        }
    }

    static void counts(int requests, int falseHits, int fetches, int messages) {
        due("requests", x.count(6), requests);
        due("false hits", x.count(7), falseHits);
        due("fetches", x.count(8), fetches);
        due("messages", x.count(9), messages);
    }

    /** The shelf of a proxy, the newest page first, must be these pages. */
    static void shelfIs(int proxy, int... pages) {
        due("pages of proxy " + proxy, x.proxy(proxy, 2), pages.length);
        for (int i = 0; i < pages.length; i++) {
            due("page " + i + " of proxy " + proxy, x.page(proxy, i), pages[i]);
        }
    }
}
