/** What an object shows of itself, as texts that can be compared. */
final class Image {
    /** The parts of an object that a call may change, in the order of whole(). */
    static final int NET = 0, TEXT = 1, SEED = 2, ACTS = 3, FIRST_SLOT = 4, SEEN = 5, SECOND_SLOT = 6, PARTS = 7;

    private Image() {
    }

    /** All that acts change. It takes some 50 calls for three small proxies. */
    static String ofNet(ShelfFilters x) {
        StringBuilder text = new StringBuilder();
        for (int what = 1; what <= 10; what++) {
            text.append(x.count(what)).append(' ');
        }
        int cells = x.count(3);
        for (int proxy = 0; x.proxy(proxy, 0) > 0; proxy++) {
            text.append("| ");
            for (int what = 0; what <= 7; what++) {
                text.append(x.proxy(proxy, what)).append(' ');
            }
            for (int place = 0; place < 9 && x.page(proxy, place) >= 0; place++) {
                text.append(x.page(proxy, place)).append(' ');
            }
            for (int cell = 0; cell < cells; cell++) {
                text.append(x.counter(proxy, cell)).append(' ');
            }
        }
        return text.toString();
    }

    /** All that an object holds, part by part. The object is used up by this. */
    static String[] whole(ShelfFilters x) {
        String[] parts = new String[PARTS];
        parts[NET] = ofNet(x);
        parts[TEXT] = x.count(0) + " " + x.fault();
        parts[SEED] = "" + x.seed(0);
        parts[ACTS] = ofActs(x);
        parts[FIRST_SLOT] = ofSlot(x, 0);
        parts[SEEN] = x.count(12) + " " + x.which();
        parts[SECOND_SLOT] = ofSlot(x, 1);
        return parts;
    }

    private static String ofSlot(ShelfFilters x, int slot) {
        int answer = x.again(slot);
        return answer < 0 ? "" + answer : answer + " " + ofNet(x);
    }

    private static String ofActs(ShelfFilters x) {
        StringBuilder text = new StringBuilder();
        text.append(x.count(11));
        // No more than 14 acts can be undone, but a broken program may tell of more.
        for (int i = 0; i < 16; i++) {
            int left = x.undo();
            text.append(" | ").append(left);
            if (left < 0) {
                break;
            }
            text.append(' ').append(x.count(5)).append(' ').append(x.count(8)).append(' ').append(x.count(9));
            for (int proxy = 0; proxy < 2; proxy++) {
                text.append(' ').append(x.proxy(proxy, 1)).append(' ').append(x.proxy(proxy, 3));
                text.append(' ').append(x.proxy(proxy, 7));
            }
        }
        return text.toString();
    }
}
