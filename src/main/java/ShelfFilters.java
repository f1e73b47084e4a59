/** Web proxies that share their caches by summaries; ../shared/DOC.md says what each call answers. */
public final class ShelfFilters {
    public static final int UNKNOWN = -1, OUTSIDE = -2, STATE = -3, FULL = -4, NONE = -9;

    private static final int PAGES = 32;
    private static final int MOST_PROXIES = 4;
    private static final int MOST_PLACES = 9;
    private static final int MOST_THRESHOLD = 9;
    private static final int MOST_CELLS = 16;
    private static final int MOST_FAMILIES = 3;
    private static final int STUCK_COUNTER = 7;
    private static final int MOST_ACTS = 14;
    private static final int MOST_SIGHTINGS = 6;
    private static final int MOST_LETTERS = 100;
    private static final int MOST_CODE = 255;
    private static final int MOST_PLANNED = 4;
    private static final int MOST_ORDERED = 5;
    private static final int MOST_ORDERS = 120;
    private static final int MOST_STEPS = 3;
    private static final int MOST_DRAWN = 20;
    private static final int MOST_TENTHS = 10;
    private static final int SLOTS = 2;
    private static final int FETCH_COST = 5;
    private static final int FROM_OWN_SHELF = 10;
    private static final int ON_SHELF = 0, IN_SUMMARY = 1, IN_FILTER = 2;

    private final Text text = new Text();
    private final Net current = new Net();
    private final Net trial = new Net();
    private final Past past = new Past();
    private final Net[] slots = new Net[SLOTS];
    private final boolean[] filled = new boolean[SLOTS];
    private final Sightings sightings = new Sightings();
    private final Order tried = new Order();
    private final Order cheapest = new Order();
    private long chance = 0;

    public ShelfFilters() {
        for (int i = 0; i < slots.length; i++) {
            slots[i] = new Net();
        }
        current.begin(8, 2);
        current.complete();
    }

    public int write(int letter) {
        if (letter < 0 || letter > MOST_CODE) {
            return OUTSIDE;
        }
        return text.append(letter) ? text.length : FULL;
    }

    public int wipe() {
        int before = text.length;
        text.length = 0;
        return before;
    }

    public int fault() {
        return text.read();
    }

    public int net() {
        if (text.read() != NONE) {
            return STATE;
        }
        current.take(text.net);
        past.forget();
        for (int i = 0; i < filled.length; i++) {
            filled[i] = false;
        }
        return current.size;
    }

    public int proxy(int proxy, int what) {
        Proxy asked = current.proxyAt(proxy);
        if (asked == null) {
            return UNKNOWN;
        }
        switch (what) {
            case 0: return asked.room;
            case 1: return asked.limit;
            case 2: return asked.pages;
            case 3: return asked.changes;
            case 4: return asked.summary;
            case 5: return Integer.bitCount(current.claimed(asked) & ~asked.shelfSet());
            case 6: return Integer.bitCount(asked.shelfSet() & ~current.claimed(asked));
            case 7: return asked.shelfSet();
            default: return OUTSIDE;
        }
    }

    public int page(int proxy, int place) {
        Proxy asked = current.proxyAt(proxy);
        if (asked == null) {
            return UNKNOWN;
        }
        if (place < 0 || place >= MOST_PLACES) {
            return OUTSIDE;
        }
        return asked.pageAt(place);
    }

    public int counter(int proxy, int cell) {
        Proxy asked = current.proxyAt(proxy);
        if (asked == null || cell < 0 || cell >= current.hashing.cells || cell >= asked.counters.length) {
            return UNKNOWN;
        }
        return asked.counters[cell];
    }

    public int hash(int family, int page, int i) {
        if (!current.hashing.isFamily(family) || !isPage(page)) {
            return UNKNOWN;
        }
        if (i < 0 || i >= current.hashing.functions) {
            return OUTSIDE;
        }
        return current.hashing.cell(family, page, i);
    }

    public int says(int proxy, int page, boolean now) {
        Proxy asked = current.proxyAt(proxy);
        if (asked == null || !isPage(page)) {
            return UNKNOWN;
        }
        return current.isSo(asked, now ? IN_FILTER : IN_SUMMARY, page) ? 1 : 0;
    }

    public int ask(int proxy, int page) {
        if (current.proxyAt(proxy) == null || !isPage(page)) {
            return UNKNOWN;
        }
        past.record(current);
        return current.request(proxy, page);
    }

    public int drop(int proxy, int page) {
        Proxy asked = current.proxyAt(proxy);
        if (asked == null || !isPage(page)) {
            return UNKNOWN;
        }
        if (!asked.has(page)) {
            return STATE;
        }
        past.record(current);
        current.discard(asked, page);
        return asked.pages;
    }

    public int send(int proxy) {
        Proxy asked = current.proxyAt(proxy);
        if (asked == null) {
            return UNKNOWN;
        }
        past.record(current);
        current.spread(asked);
        return asked.summary;
    }

    public int threshold(int proxy, int t) {
        Proxy asked = current.proxyAt(proxy);
        if (asked == null) {
            return UNKNOWN;
        }
        if (t < 1 || t > MOST_THRESHOLD) {
            return OUTSIDE;
        }
        int before = asked.limit;
        past.record(current);
        asked.limit = t;
        current.spreadDue();
        return before;
    }

    public int use(int family) {
        if (!current.hashing.isFamily(family)) {
            return UNKNOWN;
        }
        int before = current.hashing.present;
        past.record(current);
        current.adopt(family);
        return before;
    }

    public int undo() {
        if (!past.restore(current)) {
            return STATE;
        }
        return past.size;
    }

    public int weight(int proxy) {
        Proxy asked = current.proxyAt(proxy);
        if (asked == null || current.hashing.cells <= 0) {
            return UNKNOWN;
        }
        float one = (float) Integer.bitCount(asked.filterSet()) / (float) current.hashing.cells;
        float estimate = one;
        for (int i = 1; i < current.hashing.functions; i++) {
            estimate = estimate * one;
        }
        return floatBits(estimate);
    }

    public int best(int proxy, int what) {
        Proxy asked = current.proxyAt(proxy);
        if (asked == null) {
            return UNKNOWN;
        }
        if (what != 0 && what != 1) {
            return OUTSIDE;
        }
        int family = 0;
        int fewest = PAGES + 1;
        for (int i = 0; i < current.hashing.families; i++) {
            int wrong = current.wrongPages(asked, i);
            if (wrong < fewest) {
                fewest = wrong;
                family = i;
            }
        }
        return what == 0 ? family : fewest;
    }

    public int plan(int proxy, int n, int row) {
        if (current.proxyAt(proxy) == null) {
            return UNKNOWN;
        }
        if (n < 1 || n > MOST_PLANNED || row < 0 || row >= powerOfTen(2 * n)) {
            return OUTSIDE;
        }
        trial.take(current);
        long unit = powerOfTen(2 * n - 2);
        for (int i = 0; i < n && unit > 0; i++) {
            int page = (int) (row / unit % 100);
            if (!isPage(page)) {
                return UNKNOWN;
            }
            trial.request(proxy, page);
            unit /= 100;
        }
        return trial.cost() - current.cost();
    }

    public int order(int proxy, int pages, int k) {
        if (current.proxyAt(proxy) == null) {
            return UNKNOWN;
        }
        int n = Integer.bitCount(pages);
        if (n < 1 || n > MOST_ORDERED || k < -1) {
            return OUTSIDE;
        }
        int cost = findCheapest(proxy, pages);
        if (k < 0) {
            return cost;
        }
        return cheapest.pageAt(k);
    }

    public int judge(int n, long row) {
        if (n < 1 || n > MOST_STEPS || row < 0 || row >= powerOfTen(5 * n)) {
            return OUTSIDE;
        }
        trial.take(current);
        long unit = powerOfTen(5 * n - 5);
        for (int i = 0; i < n && unit > 0; i++) {
            if (!holds(trial, (int) (row / unit % 100000))) {
                return i;
            }
            unit /= 100000;
        }
        return NONE;
    }

    public int see(int proxy, int what, int was) {
        if (current.proxyAt(proxy) == null) {
            return UNKNOWN;
        }
        if (what < ON_SHELF || what > IN_FILTER || was < 0 || was > 1) {
            return OUTSIDE;
        }
        return sightings.add(proxy, what, was == 1) ? sightings.size : FULL;
    }

    public int unsee() {
        int before = sightings.size;
        sightings.size = 0;
        return before;
    }

    public int which() {
        return sightings.agreeing(current);
    }

    public int share(int proxy, boolean upper) {
        Proxy asked = current.proxyAt(proxy);
        if (asked == null) {
            return UNKNOWN;
        }
        // A page that several proxies hold is new only by the first of them to arrive, so each of
        // them has an equal part of it; at most four hold it, so that twelfths are fine enough.
        int twelfths = 0;
        for (int place = 0; place < asked.pages; place++) {
            int holders = current.holders(asked.pageAt(place));
            if (holders > 0) {
                twelfths += 12 / holders;
            }
        }
        return ofFraction(twelfths, 12, upper);
    }

    public int lost(int proxy, int page, int x, boolean upper) {
        Proxy asked = current.proxyAt(proxy);
        if (asked == null || !isPage(page)) {
            return UNKNOWN;
        }
        if (x < 0 || x > MOST_TENTHS) {
            return OUTSIDE;
        }
        if (asked.has(page)) {
            return 1;
        }
        // The asking proxy's own message is drawn too: it has no effect, and keeps the sum plain.
        int ways = 1 << current.size;
        int good = 0;
        for (int late = 0; late < ways; late++) {
            if (current.servesWell(proxy, page, late)) {
                good += wayWeight(late, x);
            }
        }
        return ofFraction(good, (int) powerOfTen(current.size), upper);
    }

    public long seed(long v) {
        long before = chance;
        chance = v;
        return before;
    }

    public int drawn(int m) {
        if (m < 1 || m > MOST_DRAWN) {
            return OUTSIDE;
        }
        trial.take(current);
        for (int i = 0; i < m; i++) {
            chance = chance * 6364136223846793005L + 1442695040888963407L;
            int v = (int) (chance >>> 33);
            if (trial.size > 0) {
                trial.request(v % trial.size, v / 8 % PAGES);
            }
        }
        return trial.cost() - current.cost();
    }

    public int keep(int slot) {
        Net kept = netAt(slots, slot);
        if (kept == null || slot < 0 || slot >= filled.length) {
            return UNKNOWN;
        }
        kept.take(current);
        filled[slot] = true;
        return current.size;
    }

    public int again(int slot) {
        Net kept = netAt(slots, slot);
        if (kept == null || slot < 0 || slot >= filled.length) {
            return UNKNOWN;
        }
        if (!filled[slot]) {
            return STATE;
        }
        current.take(kept);
        past.forget();
        return current.size;
    }

    public int count(int what) {
        switch (what) {
            case 0: return text.length;
            case 1: return current.size;
            case 2: return current.hashing.families;
            case 3: return current.hashing.cells;
            case 4: return current.hashing.functions;
            case 5: return current.hashing.present;
            case 6: return current.requests;
            case 7: return current.falseHits;
            case 8: return current.fetches;
            case 9: return current.messages;
            case 10: return current.allPages();
            case 11: return past.size;
            case 12: return sightings.size;
            default: return OUTSIDE;
        }
    }

    private static boolean isPage(int page) {
        return page >= 0 && page < PAGES;
    }

    private static Net netAt(Net[] nets, int i) {
        return i >= 0 && i < nets.length ? nets[i] : null;
    }

    private static void copyRow(int[] from, int[] to) {
        for (int i = 0; i < from.length && i < to.length; i++) {
            to[i] = from[i];
        }
    }

    private static long powerOfTen(int exponent) {
        long power = 1;
        for (int i = 0; i < exponent && i < 18; i++) {
            power *= 10;
        }
        return power;
    }

    /** Takes fractions from 0 to 1 that are no smaller than the least normal float. */
    private static int floatBits(float value) {
        if (value <= 0) {
            return 0;
        }
        float scaled = value;
        int exponent = 127;
        while (scaled < 1 && exponent > 1) {
            scaled = scaled * 2;
            exponent--;
        }
        return (exponent << 23) + (int) ((scaled - 1) * 8388608);
    }

    private static int ofFraction(int numerator, int denominator, boolean upper) {
        int divisor = commonDivisor(numerator, denominator);
        if (divisor == 0) {
            return 0;
        }
        return (upper ? numerator : denominator) / divisor;
    }

    private static int commonDivisor(int a, int b) {
        int larger = a;
        int smaller = b;
        // Euclid's steps on ints are fewer than 50.
        for (int i = 0; i < 100 && smaller != 0; i++) {
            int rest = larger % smaller;
            larger = smaller;
            smaller = rest;
        }
        return larger;
    }

    private int wayWeight(int late, int x) {
        int weight = 1;
        for (int i = 0; i < current.size; i++) {
            weight *= (late >> i & 1) == 1 ? x : MOST_TENTHS - x;
        }
        return weight;
    }

    /** Leaves the cheapest order of a set of pages in cheapest and returns its cost. */
    private int findCheapest(int proxy, int pages) {
        tried.begin(pages);
        int least = 0;
        boolean more = true;
        for (int i = 0; i < MOST_ORDERS && more; i++) {
            int cost = triedCost(proxy);
            // Orders come in ascending sequence, so the first of equal ones stays.
            if (i == 0 || cost < least) {
                least = cost;
                cheapest.take(tried);
            }
            more = tried.advance();
        }
        return least;
    }

    private int triedCost(int proxy) {
        trial.take(current);
        for (int i = 0; i < tried.size; i++) {
            trial.request(proxy, tried.pageAt(i));
        }
        return trial.cost() - current.cost();
    }

    /** Does a step of judge(), or tests a claim; false if the step is impossible or the claim untrue. */
    private static boolean holds(Net net, int step) {
        int sort = step / 10000;
        int who = step / 1000 % 10;
        int page = step / 10 % 100;
        int value = step % 10;
        if (sort == 7) {
            return page == 0 && value == 0 && net.adopt(who);
        }
        Proxy proxy = net.proxyAt(who);
        if (proxy == null || !isPage(page)) {
            return false;
        }
        switch (sort) {
            case 1: return value == 0 && net.request(who, page) != UNKNOWN;
            case 2: return value == 0 && net.discard(proxy, page);
            case 3: return page == 0 && value == 0 && net.spread(proxy);
            case 4: return value <= 1 && net.isSo(proxy, ON_SHELF, page) == (value == 1);
            case 5: return value <= 1 && net.isSo(proxy, IN_SUMMARY, page) == (value == 1);
            case 6: return page == 0 && proxy.changes == value;
            default: return false;
        }
    }

    /** The cells and the families of hash functions. */
    private static final class Hashing {
        int cells = 0;
        int functions = 0;
        int families = 0;
        int present = 0;
        private final int[] factors = new int[MOST_FAMILIES];
        private final int[] shifts = new int[MOST_FAMILIES];

        void take(Hashing other) {
            cells = other.cells;
            functions = other.functions;
            families = other.families;
            present = other.present;
            copyRow(other.factors, factors);
            copyRow(other.shifts, shifts);
        }

        void begin(int cells, int functions) {
            this.cells = cells;
            this.functions = functions;
            families = 0;
            present = 0;
        }

        void addFamily(int a, int b) {
            if (families >= 0 && families < factors.length && families < shifts.length) {
                factors[families] = a;
                shifts[families] = b;
                families++;
            }
        }

        boolean isFamily(int family) {
            return family >= 0 && family < families;
        }

        int cell(int family, int page, int i) {
            if (cells <= 0 || family < 0 || family >= factors.length || family >= shifts.length) {
                return 0;
            }
            return (factors[family] * page + shifts[family] * (i + 1) * (i + 1)) % 37 % cells;
        }

        int cellSet(int family, int page) {
            int set = 0;
            for (int i = 0; i < functions; i++) {
                set |= 1 << cell(family, page, i);
            }
            return set;
        }

        boolean contains(int set, int family, int page) {
            for (int i = 0; i < functions; i++) {
                if ((set >> cell(family, page, i) & 1) == 0) {
                    return false;
                }
            }
            return true;
        }

        /** The pages, as a bit set, that a set of cells contains by a family. */
        int pagesIn(int set, int family) {
            int pages = 0;
            for (int page = 0; page < PAGES; page++) {
                if (contains(set, family, page)) {
                    pages |= 1 << page;
                }
            }
            return pages;
        }
    }

    /** A proxy with its shelf, the newest page first, and its filter. */
    private static final class Proxy {
        int room = 0;
        int limit = 0;
        int pages = 0;
        int changes = 0;
        int summary = 0;
        private final int[] shelf = new int[MOST_PLACES];
        final int[] counters = new int[MOST_CELLS];

        void take(Proxy other) {
            room = other.room;
            limit = other.limit;
            pages = other.pages;
            changes = other.changes;
            summary = other.summary;
            copyRow(other.shelf, shelf);
            copyRow(other.counters, counters);
        }

        void begin(int room, int limit) {
            this.room = room;
            this.limit = limit;
            pages = 0;
            changes = 0;
            summary = 0;
            clearCounters();
        }

        void clearCounters() {
            for (int i = 0; i < counters.length; i++) {
                counters[i] = 0;
            }
        }

        boolean hasRoom() {
            return pages < room && pages < shelf.length;
        }

        int pageAt(int place) {
            return place >= 0 && place < pages && place < shelf.length ? shelf[place] : NONE;
        }

        int placeOf(int page) {
            for (int i = 0; i < pages && i < shelf.length; i++) {
                if (shelf[i] == page) {
                    return i;
                }
            }
            return NONE;
        }

        boolean has(int page) {
            return placeOf(page) != NONE;
        }

        int shelfSet() {
            int set = 0;
            for (int i = 0; i < pages && i < shelf.length; i++) {
                set |= 1 << shelf[i];
            }
            return set;
        }

        void addOldest(int page) {
            if (pages >= 0 && pages < shelf.length) {
                shelf[pages] = page;
                pages++;
            }
        }

        void addNewest(int page) {
            if (pages >= 0 && pages < shelf.length) {
                for (int i = pages; i > 0; i--) {
                    shelf[i] = shelf[i - 1];
                }
                shelf[0] = page;
                pages++;
            }
        }

        void removeAt(int place) {
            if (place >= 0 && place < pages && pages <= shelf.length) {
                for (int i = place + 1; i < pages; i++) {
                    shelf[i - 1] = shelf[i];
                }
                pages--;
            }
        }

        /** Makes a page that is on the shelf the newest one. */
        void renew(int page) {
            removeAt(placeOf(page));
            addNewest(page);
        }

        /** Changes a counter; a stuck one may have missed increases, so it never moves again. */
        void move(int cell, int by) {
            if (cell >= 0 && cell < counters.length && counters[cell] < STUCK_COUNTER) {
                counters[cell] += by;
            }
        }

        int filterSet() {
            int set = 0;
            for (int i = 0; i < counters.length; i++) {
                if (counters[i] > 0) {
                    set |= 1 << i;
                }
            }
            return set;
        }
    }

    /** All that a text sets, and all that acts change. */
    private static final class Net {
        final Hashing hashing = new Hashing();
        private final Proxy[] proxies = new Proxy[MOST_PROXIES];
        int size = 0;
        int requests = 0;
        int falseHits = 0;
        int fetches = 0;
        int messages = 0;

        Net() {
            for (int i = 0; i < proxies.length; i++) {
                proxies[i] = new Proxy();
            }
        }

        void take(Net other) {
            hashing.take(other.hashing);
            for (int i = 0; i < proxies.length && i < other.proxies.length; i++) {
                if (proxies[i] != null && other.proxies[i] != null) {
                    proxies[i].take(other.proxies[i]);
                }
            }
            size = other.size;
            requests = other.requests;
            falseHits = other.falseHits;
            fetches = other.fetches;
            messages = other.messages;
        }

        void begin(int cells, int functions) {
            hashing.begin(cells, functions);
            size = 0;
            clearCounts();
        }

        private void clearCounts() {
            requests = 0;
            falseHits = 0;
            fetches = 0;
            messages = 0;
        }

        void addProxy(int room, int limit) {
            if (size >= 0 && size < proxies.length && proxies[size] != null) {
                proxies[size].begin(room, limit);
                size++;
            }
        }

        /** Makes a net of which all parts have been added ready for acts. */
        void complete() {
            if (hashing.families == 0) {
                hashing.addFamily(1, 1);
            }
            adopt(0);
            clearCounts();
        }

        Proxy proxyAt(int i) {
            return i >= 0 && i < size && i < proxies.length ? proxies[i] : null;
        }

        boolean anyRoom() {
            for (int i = 0; i < size; i++) {
                Proxy proxy = proxyAt(i);
                if (proxy != null && proxy.hasRoom()) {
                    return true;
                }
            }
            return false;
        }

        int cost() {
            return requests + messages + FETCH_COST * fetches;
        }

        int allPages() {
            int sum = 0;
            for (int i = 0; i < size; i++) {
                Proxy proxy = proxyAt(i);
                if (proxy != null) {
                    sum += proxy.pages;
                }
            }
            return sum;
        }

        /** The number of proxies that have a page on their shelves. */
        int holders(int page) {
            int holders = 0;
            for (int i = 0; i < size; i++) {
                Proxy proxy = proxyAt(i);
                if (proxy != null && proxy.has(page)) {
                    holders++;
                }
            }
            return holders;
        }

        /** Tells what see() observes of a page. */
        boolean isSo(Proxy proxy, int what, int page) {
            if (what == ON_SHELF) {
                return proxy.has(page);
            }
            int set = what == IN_SUMMARY ? proxy.summary : proxy.filterSet();
            return hashing.contains(set, hashing.present, page);
        }

        /** The pages, as a bit set, that the summary of a proxy contains. */
        int claimed(Proxy proxy) {
            return hashing.pagesIn(proxy.summary, hashing.present);
        }

        /** The number of pages that the filter would contain by a family without their being on the shelf. */
        int wrongPages(Proxy proxy, int family) {
            int set = 0;
            for (int place = 0; place < proxy.pages; place++) {
                set |= hashing.cellSet(family, proxy.pageAt(place));
            }
            return Integer.bitCount(hashing.pagesIn(set, family) & ~proxy.shelfSet());
        }

        /** Asks for a page at a proxy and returns what ask() returns. */
        int request(int asker, int page) {
            Proxy own = proxyAt(asker);
            if (own == null) {
                return UNKNOWN;
            }
            int answer = FROM_OWN_SHELF;
            if (own.has(page)) {
                own.renew(page);
            } else {
                answer = searchOthers(asker, page);
                if (answer == NONE) {
                    fetches++;
                }
                if (!own.hasRoom()) {
                    removePage(own, own.pageAt(own.pages - 1));
                }
                addPage(own, page);
            }
            spreadDue();
            return answer;
        }

        private int searchOthers(int asker, int page) {
            for (int i = 0; i < size; i++) {
                Proxy other = proxyAt(i);
                if (i != asker && other != null && hashing.contains(other.summary, hashing.present, page)) {
                    requests++;
                    if (other.has(page)) {
                        other.renew(page);
                        return i;
                    }
                    falseHits++;
                }
            }
            return NONE;
        }

        private void addPage(Proxy proxy, int page) {
            proxy.addNewest(page);
            tally(proxy, page, 1);
            proxy.changes++;
        }

        private void removePage(Proxy proxy, int page) {
            proxy.removeAt(proxy.placeOf(page));
            tally(proxy, page, -1);
            proxy.changes++;
        }

        private void tally(Proxy proxy, int page, int by) {
            for (int i = 0; i < hashing.functions; i++) {
                proxy.move(hashing.cell(hashing.present, page, i), by);
            }
        }

        /** Drops a page, unless it is not on the shelf. */
        boolean discard(Proxy proxy, int page) {
            if (!proxy.has(page)) {
                return false;
            }
            removePage(proxy, page);
            spreadDue();
            return true;
        }

        /** Sends the summary of a proxy, which is always possible. */
        boolean spread(Proxy proxy) {
            proxy.summary = proxy.filterSet();
            proxy.changes = 0;
            messages += size - 1;
            return true;
        }

        void spreadDue() {
            for (int i = 0; i < size; i++) {
                Proxy proxy = proxyAt(i);
                if (proxy != null && proxy.changes >= proxy.limit) {
                    spread(proxy);
                }
            }
        }

        /** Uses a family, if there is such a one. */
        boolean adopt(int family) {
            if (!hashing.isFamily(family)) {
                return false;
            }
            hashing.present = family;
            // A rebuilt filter depends on no other proxy, so each may send at once.
            for (int i = 0; i < size; i++) {
                Proxy proxy = proxyAt(i);
                if (proxy != null) {
                    rebuild(proxy);
                    spread(proxy);
                }
            }
            return true;
        }

        private void rebuild(Proxy proxy) {
            proxy.clearCounters();
            for (int place = proxy.pages - 1; place >= 0; place--) {
                tally(proxy, proxy.pageAt(place), 1);
            }
        }

        /**
         * Tells whether a request causes neither a false hit nor a needless fetch if all proxies have
         * sent their summaries but the messages of the proxies in the bit set late were lost.
         */
        boolean servesWell(int asker, int page, int late) {
            for (int i = 0; i < size; i++) {
                Proxy other = proxyAt(i);
                int known = (late >> i & 1) == 1 ? IN_SUMMARY : IN_FILTER;
                // The first proxy that is asked decides: it has the page, or is a false hit.
                if (i != asker && other != null && isSo(other, known, page)) {
                    return other.has(page);
                }
            }
            return holders(page) == 0;
        }
    }

    /** An order of pages that are asked for. */
    private static final class Order {
        int size = 0;
        private final int[] pages = new int[MOST_ORDERED];

        void take(Order other) {
            size = other.size;
            copyRow(other.pages, pages);
        }

        int pageAt(int i) {
            return i >= 0 && i < size && i < pages.length ? pages[i] : NONE;
        }

        /** Makes this the ascending order of a set of pages. */
        void begin(int set) {
            size = 0;
            for (int page = 0; page < PAGES; page++) {
                if ((set >> page & 1) == 1 && size < pages.length) {
                    pages[size] = page;
                    size++;
                }
            }
        }

        /** Makes this the next greater order of its pages, if there is one. */
        boolean advance() {
            int turn = size - 2;
            while (turn >= 0 && pageAt(turn) > pageAt(turn + 1)) {
                turn--;
            }
            if (turn < 0) {
                return false;
            }
            int other = size - 1;
            while (other > turn && pageAt(other) < pageAt(turn)) {
                other--;
            }
            swap(turn, other);
            int high = size - 1;
            for (int low = turn + 1; low < high; low++) {
                swap(low, high);
                high--;
            }
            return true;
        }

        private void swap(int i, int j) {
            if (i >= 0 && i < pages.length && j >= 0 && j < pages.length) {
                int page = pages[i];
                pages[i] = pages[j];
                pages[j] = page;
            }
        }
    }

    /** The text of a net, and its reading from left to right. */
    private static final class Text {
        int length = 0;
        /** The net that the last reading made, whole only if there was no fault. */
        final Net net = new Net();
        private final int[] letters = new int[MOST_LETTERS];
        private int at = 0;
        private int digit = 0;

        /** Appends a letter, unless the text is full. */
        boolean append(int letter) {
            if (length < 0 || length >= letters.length) {
                return false;
            }
            letters[length] = letter;
            length++;
            return true;
        }

        /** Reads the text into the net and returns its fault, or NONE. */
        int read() {
            at = 0;
            if (!readHead()) {
                return at;
            }
            for (int parts = 0; parts < MOST_LETTERS && at < length; parts++) {
                if (!readPart()) {
                    return at;
                }
            }
            net.complete();
            return NONE;
        }

        private int letter() {
            return at >= 0 && at < length && at < letters.length ? letters[at] : NONE;
        }

        /** Passes the letter if it is the one given. */
        private boolean pass(int wanted) {
            if (letter() != wanted) {
                return false;
            }
            at++;
            return true;
        }

        /** Passes a digit and leaves its value in digit, if it is in the range given. */
        private boolean passDigit(int least, int most) {
            int value = letter() - '0';
            if (value < least || value > most) {
                return false;
            }
            digit = value;
            at++;
            return true;
        }

        private boolean readHead() {
            if (!pass('N') || !passDigit(0, 1)) {
                return false;
            }
            int tens = digit;
            if (!passDigit(tens == 0 ? 4 : 0, tens == 0 ? 9 : 6)) {
                return false;
            }
            int cells = 10 * tens + digit;
            if (!passDigit(1, 3)) {
                return false;
            }
            net.begin(cells, digit);
            return true;
        }

        private boolean readPart() {
            switch (letter()) {
                case 'h': return net.hashing.families < MOST_FAMILIES && readFamily();
                case 'p': return net.size < MOST_PROXIES && readProxy();
                case 's': return net.anyRoom() && readShelved();
                default: return false;
            }
        }

        private boolean readFamily() {
            if (!pass('h') || !passDigit(1, 9)) {
                return false;
            }
            int a = digit;
            if (!passDigit(0, 9)) {
                return false;
            }
            net.hashing.addFamily(a, digit);
            return true;
        }

        private boolean readProxy() {
            if (!pass('p') || !passDigit(1, 9)) {
                return false;
            }
            int room = digit;
            if (!passDigit(1, 9)) {
                return false;
            }
            net.addProxy(room, digit);
            return true;
        }

        private boolean readShelved() {
            if (!pass('s')) {
                return false;
            }
            Proxy proxy = net.proxyAt(letter() - '0');
            if (proxy == null || !proxy.hasRoom()) {
                return false;
            }
            at++;
            int tens = letter() - '0';
            if (!mayBegin(proxy, tens)) {
                return false;
            }
            at++;
            int page = 10 * tens + letter() - '0';
            if (!isPage(page) || proxy.has(page) || !passDigit(0, 9)) {
                return false;
            }
            proxy.addOldest(page);
            return true;
        }

        /** Tells whether a page that may come to the shelf begins with a digit. */
        private static boolean mayBegin(Proxy proxy, int tens) {
            if (tens < 0 || tens > 9) {
                return false;
            }
            for (int page = 10 * tens; page < 10 * tens + 10; page++) {
                if (isPage(page) && !proxy.has(page)) {
                    return true;
                }
            }
            return false;
        }
    }

    /** The nets before the last acts, in a ring. */
    private static final class Past {
        private final Net[] nets = new Net[MOST_ACTS];
        private int next = 0;
        int size = 0;

        Past() {
            for (int i = 0; i < nets.length; i++) {
                nets[i] = new Net();
            }
        }

        void forget() {
            size = 0;
        }

        void record(Net now) {
            Net place = netAt(nets, next);
            if (place != null) {
                place.take(now);
            }
            next = (next + 1) % MOST_ACTS;
            size = Math.min(size + 1, MOST_ACTS);
        }

        boolean restore(Net now) {
            int latest = (next + MOST_ACTS - 1) % MOST_ACTS;
            Net before = netAt(nets, latest);
            if (size <= 0 || before == null) {
                return false;
            }
            now.take(before);
            next = latest;
            size--;
            return true;
        }
    }

    /** The observations about an unknown page. */
    private static final class Sightings {
        private final int[] proxies = new int[MOST_SIGHTINGS];
        private final int[] sorts = new int[MOST_SIGHTINGS];
        private final boolean[] truths = new boolean[MOST_SIGHTINGS];
        int size = 0;

        boolean add(int proxy, int sort, boolean truth) {
            if (size < 0 || size >= proxies.length || size >= sorts.length || size >= truths.length) {
                return false;
            }
            proxies[size] = proxy;
            sorts[size] = sort;
            truths[size] = truth;
            size++;
            return true;
        }

        int agreeing(Net net) {
            int pages = 0;
            for (int page = 0; page < PAGES; page++) {
                if (agrees(net, page)) {
                    pages |= 1 << page;
                }
            }
            return pages;
        }

        private boolean agrees(Net net, int page) {
            for (int i = 0; i < size && i < proxies.length && i < sorts.length && i < truths.length; i++) {
                Proxy proxy = net.proxyAt(proxies[i]);
                if (proxy != null && net.isSo(proxy, sorts[i], page) != truths[i]) {
                    return false;
                }
            }
            return true;
        }
    }
}
