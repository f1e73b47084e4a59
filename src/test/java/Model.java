import java.math.BigInteger;
import java.util.ArrayDeque;
import java.util.ArrayList;
import java.util.Collections;
import java.util.Deque;
import java.util.LinkedList;
import java.util.List;
import java.util.TreeSet;
import java.util.regex.Matcher;
import java.util.regex.Pattern;

/**
 * The document told a second time, as plainly as can be and by other means than the program's: faults are
 * found by trying all continuations, shares by all orders of arrival, lost messages one by one.
 */
final class Model {
    static final int UNKNOWN = -1, OUTSIDE = -2, STATE = -3, FULL = -4, NONE = -9;

    static final class Shelf {
        int room;
        int limit;
        int changes = 0;
        LinkedList<Integer> pages = new LinkedList<>();
        int[] counters = new int[16];
        TreeSet<Integer> summary = new TreeSet<>();

        Shelf copy() {
            Shelf other = new Shelf();
            other.room = room;
            other.limit = limit;
            other.changes = changes;
            other.pages.addAll(pages);
            other.counters = counters.clone();
            other.summary.addAll(summary);
            return other;
        }

        TreeSet<Integer> cells() {
            TreeSet<Integer> set = new TreeSet<>();
            for (int i = 0; i < 16; i++) {
                if (counters[i] > 0) {
                    set.add(i);
                }
            }
            return set;
        }
    }

    static final class World {
        int m = 8;
        int k = 2;
        int present = 0;
        List<int[]> families = new ArrayList<>();
        List<Shelf> shelves = new ArrayList<>();
        int requests = 0;
        int falseHits = 0;
        int fetches = 0;
        int messages = 0;

        World copy() {
            World other = new World();
            other.m = m;
            other.k = k;
            other.present = present;
            other.families.addAll(families);
            for (Shelf shelf : shelves) {
                other.shelves.add(shelf.copy());
            }
            other.requests = requests;
            other.falseHits = falseHits;
            other.fetches = fetches;
            other.messages = messages;
            return other;
        }

        int cell(int family, int page, int i) {
            int[] f = families.get(family);
            return (f[0] * page + f[1] * (i + 1) * (i + 1)) % 37 % m;
        }

        boolean contains(TreeSet<Integer> set, int page) {
            for (int i = 0; i < k; i++) {
                if (!set.contains(cell(present, page, i))) {
                    return false;
                }
            }
            return true;
        }

        void come(Shelf shelf, int page) {
            shelf.pages.addFirst(page);
            shelf.changes++;
            countIn(shelf, page);
        }

        void countIn(Shelf shelf, int page) {
            for (int i = 0; i < k; i++) {
                int c = cell(present, page, i);
                shelf.counters[c] = shelf.counters[c] == 7 ? 7 : shelf.counters[c] + 1;
            }
        }

        void go(Shelf shelf, int page) {
            shelf.pages.remove((Integer) page);
            shelf.changes++;
            for (int i = 0; i < k; i++) {
                int c = cell(present, page, i);
                shelf.counters[c] = shelf.counters[c] == 7 ? 7 : shelf.counters[c] - 1;
            }
        }

        void rebuild(Shelf shelf) {
            shelf.counters = new int[16];
            for (int i = shelf.pages.size() - 1; i >= 0; i--) {
                countIn(shelf, shelf.pages.get(i));
            }
        }

        int ask(int x, int page) {
            Shelf own = shelves.get(x);
            int answer = NONE;
            if (own.pages.contains(page)) {
                own.pages.remove((Integer) page);
                own.pages.addFirst(page);
                answer = 10;
            } else {
                for (int y = 0; y < shelves.size() && answer == NONE; y++) {
                    Shelf other = shelves.get(y);
                    if (y == x || !contains(other.summary, page)) {
                        continue;
                    }
                    requests++;
                    if (other.pages.contains(page)) {
                        other.pages.remove((Integer) page);
                        other.pages.addFirst(page);
                        answer = y;
                    } else {
                        falseHits++;
                    }
                }
                if (answer == NONE) {
                    fetches++;
                }
                if (own.pages.size() == own.room) {
                    go(own, own.pages.getLast());
                }
                come(own, page);
            }
            sendDue();
            return answer;
        }

        void send(Shelf shelf) {
            shelf.summary = shelf.cells();
            shelf.changes = 0;
            messages += shelves.size() - 1;
        }

        void sendDue() {
            for (Shelf shelf : shelves) {
                if (shelf.changes >= shelf.limit) {
                    send(shelf);
                }
            }
        }

        void use(int family) {
            present = family;
            for (Shelf shelf : shelves) {
                rebuild(shelf);
            }
            for (Shelf shelf : shelves) {
                send(shelf);
            }
        }

        int cost() {
            return requests + messages + 5 * fetches;
        }
    }

    private String text = "";
    private World w = new World();
    private final Deque<World> history = new ArrayDeque<>();
    private final World[] slots = new World[2];
    private final List<int[]> seen = new ArrayList<>();
    private long seed = 0;

    Model() {
        w.families.add(new int[] {1, 1});
    }

    private boolean noProxy(int proxy) {
        return proxy < 0 || proxy >= w.shelves.size();
    }

    private static boolean noPage(int page) {
        return page < 0 || page > 31;
    }

    private static int bits(Iterable<Integer> set) {
        int bits = 0;
        for (int i : set) {
            bits |= 1 << i;
        }
        return bits;
    }

    int write(int letter) {
        if (letter < 0 || letter > 255) {
            return OUTSIDE;
        }
        if (text.length() == 100) {
            return FULL;
        }
        text += (char) letter;
        return text.length();
    }

    int wipe() {
        int before = text.length();
        text = "";
        return before;
    }

    private static final Pattern WHOLE =
            Pattern.compile("N(0[4-9]|1[0-6])[1-3]((h[1-9][0-9])|(p[1-9][1-9])|(s[0-3][0-3][0-9]))*");
    private static final Pattern PART = Pattern.compile("h..|p..|s...");

    /** The net of a text without a fault, null for any other text. */
    static World worldOf(String text) {
        if (!WHOLE.matcher(text).matches()) {
            return null;
        }
        World made = new World();
        made.m = Integer.parseInt(text.substring(1, 3));
        made.k = text.charAt(3) - '0';
        Matcher parts = PART.matcher(text.substring(4));
        while (parts.find()) {
            String part = parts.group();
            int first = part.charAt(1) - '0';
            if (part.charAt(0) == 's') {
                int page = Integer.parseInt(part.substring(2));
                if (first >= made.shelves.size() || page > 31) {
                    return null;
                }
                Shelf shelf = made.shelves.get(first);
                if (shelf.pages.size() == shelf.room || shelf.pages.contains(page)) {
                    return null;
                }
                shelf.pages.addLast(page);
            } else if (part.charAt(0) == 'h') {
                made.families.add(new int[] {first, part.charAt(2) - '0'});
            } else {
                Shelf shelf = new Shelf();
                shelf.room = first;
                shelf.limit = part.charAt(2) - '0';
                made.shelves.add(shelf);
            }
        }
        if (made.families.size() > 3 || made.shelves.size() > 4) {
            return null;
        }
        if (made.families.isEmpty()) {
            made.families.add(new int[] {1, 1});
        }
        made.use(0);
        made.messages = 0;
        return made;
    }

    /** Tells whether a text without a fault begins so. */
    private static boolean begins(String start, int more) {
        if (worldOf(start) != null) {
            return true;
        }
        for (char digit = '0'; more > 0 && digit <= '9'; digit++) {
            if (begins(start + digit, more - 1)) {
                return true;
            }
        }
        return false;
    }

    int fault() {
        if (worldOf(text) != null) {
            return NONE;
        }
        for (int i = 0; i < text.length(); i++) {
            if (!begins(text.substring(0, i + 1), 3)) {
                return i;
            }
        }
        return text.length();
    }

    int net() {
        World made = worldOf(text);
        if (made == null) {
            return STATE;
        }
        w = made;
        history.clear();
        slots[0] = null;
        slots[1] = null;
        return w.shelves.size();
    }

    int proxy(int proxy, int what) {
        if (noProxy(proxy)) {
            return UNKNOWN;
        }
        if (what < 0 || what > 7) {
            return OUTSIDE;
        }
        Shelf shelf = w.shelves.get(proxy);
        int wrong = 0;
        int missing = 0;
        for (int page = 0; page < 32; page++) {
            boolean said = w.contains(shelf.summary, page);
            wrong += said && !shelf.pages.contains(page) ? 1 : 0;
            missing += !said && shelf.pages.contains(page) ? 1 : 0;
        }
        int[] all = {shelf.room, shelf.limit, shelf.pages.size(), shelf.changes, bits(shelf.summary), wrong, missing,
            bits(shelf.pages)};
        return all[what];
    }

    int page(int proxy, int place) {
        if (noProxy(proxy)) {
            return UNKNOWN;
        }
        if (place < 0 || place > 8) {
            return OUTSIDE;
        }
        List<Integer> pages = w.shelves.get(proxy).pages;
        return place < pages.size() ? pages.get(place) : NONE;
    }

    int counter(int proxy, int cell) {
        if (noProxy(proxy) || cell < 0 || cell >= w.m) {
            return UNKNOWN;
        }
        return w.shelves.get(proxy).counters[cell];
    }

    int hash(int family, int page, int i) {
        if (family < 0 || family >= w.families.size() || noPage(page)) {
            return UNKNOWN;
        }
        return i < 0 || i >= w.k ? OUTSIDE : w.cell(family, page, i);
    }

    int says(int proxy, int page, boolean now) {
        if (noProxy(proxy) || noPage(page)) {
            return UNKNOWN;
        }
        Shelf shelf = w.shelves.get(proxy);
        return w.contains(now ? shelf.cells() : shelf.summary, page) ? 1 : 0;
    }

    private void remember() {
        history.addLast(w.copy());
        if (history.size() > 14) {
            history.removeFirst();
        }
    }

    int ask(int proxy, int page) {
        if (noProxy(proxy) || noPage(page)) {
            return UNKNOWN;
        }
        remember();
        return w.ask(proxy, page);
    }

    int drop(int proxy, int page) {
        if (noProxy(proxy) || noPage(page)) {
            return UNKNOWN;
        }
        Shelf shelf = w.shelves.get(proxy);
        if (!shelf.pages.contains(page)) {
            return STATE;
        }
        remember();
        w.go(shelf, page);
        w.sendDue();
        return shelf.pages.size();
    }

    int send(int proxy) {
        if (noProxy(proxy)) {
            return UNKNOWN;
        }
        remember();
        w.send(w.shelves.get(proxy));
        return bits(w.shelves.get(proxy).summary);
    }

    int threshold(int proxy, int t) {
        if (noProxy(proxy)) {
            return UNKNOWN;
        }
        if (t < 1 || t > 9) {
            return OUTSIDE;
        }
        remember();
        int before = w.shelves.get(proxy).limit;
        w.shelves.get(proxy).limit = t;
        w.sendDue();
        return before;
    }

    int use(int family) {
        if (family < 0 || family >= w.families.size()) {
            return UNKNOWN;
        }
        remember();
        int before = w.present;
        w.use(family);
        return before;
    }

    int undo() {
        if (history.isEmpty()) {
            return STATE;
        }
        w = history.removeLast();
        return history.size();
    }

    int weight(int proxy) {
        if (noProxy(proxy)) {
            return UNKNOWN;
        }
        float one = (float) w.shelves.get(proxy).cells().size() / (float) w.m;
        return Float.floatToIntBits(w.k == 1 ? one : w.k == 2 ? one * one : one * one * one);
    }

    int best(int proxy, int what) {
        if (noProxy(proxy)) {
            return UNKNOWN;
        }
        if (what < 0 || what > 1) {
            return OUTSIDE;
        }
        int[] answer = {-1, 99};
        for (int family = 0; family < w.families.size(); family++) {
            World other = w.copy();
            other.use(family);
            Shelf shelf = other.shelves.get(proxy);
            int wrong = 0;
            for (int page = 0; page < 32; page++) {
                wrong += other.contains(shelf.cells(), page) && !shelf.pages.contains(page) ? 1 : 0;
            }
            if (wrong < answer[1]) {
                answer = new int[] {family, wrong};
            }
        }
        return answer[what];
    }

    private int costOf(int proxy, List<Integer> pages) {
        World other = w.copy();
        for (int page : pages) {
            other.ask(proxy, page);
        }
        return other.cost() - w.cost();
    }

    int plan(int proxy, int n, int row) {
        if (noProxy(proxy)) {
            return UNKNOWN;
        }
        if (n < 1 || n > 4 || row < 0 || Integer.toString(row).length() > 2 * n) {
            return OUTSIDE;
        }
        String digits = padded(row, 2 * n);
        List<Integer> pages = new ArrayList<>();
        for (int i = 0; i < n; i++) {
            pages.add(Integer.parseInt(digits.substring(2 * i, 2 * i + 2)));
        }
        return Collections.max(pages) > 31 ? UNKNOWN : costOf(proxy, pages);
    }

    private static String padded(long row, int width) {
        return String.format("%0" + width + "d", row);
    }

    private static List<List<Integer>> permutations(List<Integer> items) {
        List<List<Integer>> all = new ArrayList<>();
        if (items.isEmpty()) {
            all.add(new ArrayList<>());
        }
        for (Integer first : items) {
            List<Integer> others = new ArrayList<>(items);
            others.remove(first);
            for (List<Integer> end : permutations(others)) {
                end.add(0, first);
                all.add(end);
            }
        }
        return all;
    }

    int order(int proxy, int pages, int k) {
        if (noProxy(proxy)) {
            return UNKNOWN;
        }
        List<Integer> items = new ArrayList<>();
        for (int page = 0; page < 32; page++) {
            if ((pages & 1 << page) != 0) {
                items.add(page);
            }
        }
        if (items.isEmpty() || items.size() > 5 || k < -1) {
            return OUTSIDE;
        }
        int least = Integer.MAX_VALUE;
        List<Integer> cheapest = null;
        for (List<Integer> order : permutations(items)) {
            int cost = costOf(proxy, order);
            if (cost < least) {
                least = cost;
                cheapest = order;
            }
        }
        return k == -1 ? least : k < items.size() ? cheapest.get(k) : NONE;
    }

    int judge(int n, long row) {
        if (n < 1 || n > 3 || row < 0 || Long.toString(row).length() > 5 * n) {
            return OUTSIDE;
        }
        World other = w.copy();
        String digits = padded(row, 5 * n);
        for (int i = 0; i < n; i++) {
            if (!done(other, digits.substring(5 * i, 5 * i + 5))) {
                return i;
            }
        }
        return NONE;
    }

    private static boolean done(World world, String step) {
        int a = step.charAt(1) - '0';
        int p = Integer.parseInt(step.substring(2, 4));
        int v = step.charAt(4) - '0';
        if (step.matches("7.000")) {
            if (a >= world.families.size()) {
                return false;
            }
            world.use(a);
            return true;
        }
        if (!step.matches("[12]...0|3.000|[45]...[01]|6.00.") || a >= world.shelves.size() || p > 31) {
            return false;
        }
        Shelf shelf = world.shelves.get(a);
        switch (step.charAt(0)) {
            case '1':
                world.ask(a, p);
                return true;
            case '2':
                if (!shelf.pages.contains(p)) {
                    return false;
                }
                world.go(shelf, p);
                world.sendDue();
                return true;
            case '3':
                world.send(shelf);
                return true;
            case '4':
                return shelf.pages.contains(p) == (v == 1);
            case '5':
                return world.contains(shelf.summary, p) == (v == 1);
            default:
                return shelf.changes == v;
        }
    }

    int see(int proxy, int what, int was) {
        if (noProxy(proxy)) {
            return UNKNOWN;
        }
        if (what < 0 || what > 2 || was < 0 || was > 1) {
            return OUTSIDE;
        }
        if (seen.size() == 6) {
            return FULL;
        }
        seen.add(new int[] {proxy, what, was});
        return seen.size();
    }

    int unsee() {
        int before = seen.size();
        seen.clear();
        return before;
    }

    int which() {
        int pages = 0;
        for (int page = 0; page < 32; page++) {
            boolean agrees = true;
            for (int[] one : seen) {
                if (one[0] < w.shelves.size()) {
                    Shelf shelf = w.shelves.get(one[0]);
                    boolean[] facts = {shelf.pages.contains(page), w.contains(shelf.summary, page),
                        w.contains(shelf.cells(), page)};
                    agrees &= facts[one[1]] == (one[2] == 1);
                }
            }
            pages |= agrees ? 1 << page : 0;
        }
        return pages;
    }

    private static int part(long numerator, long denominator, boolean upper) {
        BigInteger divisor = BigInteger.valueOf(numerator).gcd(BigInteger.valueOf(denominator));
        return (int) ((upper ? numerator : denominator) / divisor.longValueExact());
    }

    int share(int proxy, boolean upper) {
        if (noProxy(proxy)) {
            return UNKNOWN;
        }
        List<Integer> all = new ArrayList<>();
        for (int i = 0; i < w.shelves.size(); i++) {
            all.add(i);
        }
        List<List<Integer>> orders = permutations(all);
        long sum = 0;
        for (List<Integer> order : orders) {
            TreeSet<Integer> there = new TreeSet<>();
            for (int i : order) {
                int before = there.size();
                there.addAll(w.shelves.get(i).pages);
                sum += i == proxy ? there.size() - before : 0;
            }
        }
        return part(sum, orders.size(), upper);
    }

    int lost(int proxy, int page, int x, boolean upper) {
        if (noProxy(proxy) || noPage(page)) {
            return UNKNOWN;
        }
        if (x < 0 || x > 10) {
            return OUTSIDE;
        }
        return part(good(proxy, page, x, 0, w.copy()), (long) Math.pow(10, w.shelves.size()), upper);
    }

    /** The weight, in parts of 10 to the number of proxies, of the outcomes by which nothing goes wrong. */
    private long good(int proxy, int page, int x, int sender, World world) {
        if (sender == world.shelves.size()) {
            return isGood(proxy, page, world.copy()) ? 1 : 0;
        }
        World sent = world.copy();
        sent.shelves.get(sender).summary = sent.shelves.get(sender).cells();
        return x * good(proxy, page, x, sender + 1, world) + (10 - x) * good(proxy, page, x, sender + 1, sent);
    }

    private static boolean isGood(int proxy, int page, World world) {
        boolean elsewhere = false;
        for (int i = 0; i < world.shelves.size(); i++) {
            elsewhere |= i != proxy && world.shelves.get(i).pages.contains(page);
        }
        int before = world.falseHits;
        int answer = world.ask(proxy, page);
        return world.falseHits == before && !(answer == NONE && elsewhere);
    }

    long seed(long v) {
        long before = seed;
        seed = v;
        return before;
    }

    int drawn(int m) {
        if (m < 1 || m > 20) {
            return OUTSIDE;
        }
        World other = w.copy();
        for (int i = 0; i < m; i++) {
            seed = seed * 6364136223846793005L + 1442695040888963407L;
            int v = (int) (seed >>> 33);
            if (!other.shelves.isEmpty()) {
                other.ask(v % other.shelves.size(), v / 8 % 32);
            }
        }
        return other.cost() - w.cost();
    }

    int keep(int slot) {
        if (slot < 0 || slot > 1) {
            return UNKNOWN;
        }
        slots[slot] = w.copy();
        return w.shelves.size();
    }

    int again(int slot) {
        if (slot < 0 || slot > 1) {
            return UNKNOWN;
        }
        if (slots[slot] == null) {
            return STATE;
        }
        w = slots[slot].copy();
        history.clear();
        return w.shelves.size();
    }

    int count(int what) {
        if (what < 0 || what > 12) {
            return OUTSIDE;
        }
        int pages = 0;
        for (Shelf shelf : w.shelves) {
            pages += shelf.pages.size();
        }
        int[] all = {text.length(), w.shelves.size(), w.families.size(), w.m, w.k, w.present, w.requests, w.falseHits,
            w.fetches, w.messages, pages, history.size(), seen.size()};
        return all[what];
    }
}
