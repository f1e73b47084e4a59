import java.util.Random;

/** Long random runs of calls, each answered by the program and by the model. */
final class ModelTests {
    private static final int RUNS = 400;
    private static final int CALLS = 512;

    private final Random random;
    private final ShelfFilters x = new ShelfFilters();
    private final Model model = new Model();
    private final StringBuilder log = new StringBuilder();
    private int calls = 0;
    private boolean agree = true;

    private ModelTests(long seed) {
        random = new Random(seed);
    }

    static void run() {
        for (int i = 0; i < RUNS; i++) {
            ModelTests one = new ModelTests(i);
            one.play();
            Check.that("random run " + i + " agrees with the model;" + one.log, one.agree);
        }
    }

    private void play() {
        text(validText());
        if (random.nextInt(10) > 0) {
            call("net");
        }
        while (calls < CALLS && agree) {
            if (random.nextInt(120) == 0) {
                text(random.nextInt(3) == 0 ? validText() : brokenText());
                if (calls < CALLS) {
                    call("fault");
                }
            } else {
                call(pick("fault net proxy proxy proxy page page counter counter hash says says ask ask ask ask ask ask"
                        + " ask drop drop drop send threshold use undo undo weight best plan plan order judge judge see"
                        + " unsee which share lost lost seed drawn keep again count count count"));
            }
        }
    }

    private String pick(String words) {
        String[] all = words.split(" ");
        String word = all[random.nextInt(all.length)];
        // A new net or an emptied row of observations hides much, so these are rarer.
        boolean rare = word.equals("net") || word.equals("unsee") || word.equals("again") || word.equals("use");
        return rare && random.nextInt(3) > 0 ? "ask" : word;
    }

    private void text(String text) {
        same("wipe", x.wipe(), model.wipe());
        for (char letter : text.toCharArray()) {
            if (calls < CALLS) {
                same("write " + letter, x.write(letter), model.write(letter));
            }
        }
    }

    private String validText() {
        StringBuilder text = new StringBuilder(String.format("N%02d%d", 4 + random.nextInt(13), 1 + random.nextInt(3)));
        int proxies = 0;
        int families = 0;
        for (int i = random.nextInt(24); i >= 0; i--) {
            String part;
            int sort = random.nextInt(4);
            if (sort == 0 && families < 3) {
                part = "h" + (1 + random.nextInt(9)) + random.nextInt(10);
            } else if (sort == 1 && proxies < 4) {
                part = "p" + (1 + random.nextInt(9)) + (1 + random.nextInt(9));
            } else {
                part = String.format("s%d%02d", random.nextInt(4), random.nextInt(32));
            }
            if (Model.worldOf(text + part) != null && text.length() + part.length() <= 100) {
                text.append(part);
                families += part.startsWith("h") ? 1 : 0;
                proxies += part.startsWith("p") ? 1 : 0;
            }
        }
        return text.toString();
    }

    private String brokenText() {
        StringBuilder text = new StringBuilder(validText());
        String letters = "N0123456789hps \u0000\u00ff/:";
        for (int i = random.nextInt(3); i >= 0; i--) {
            int at = random.nextInt(text.length() + 1);
            char letter = letters.charAt(random.nextInt(letters.length()));
            switch (random.nextInt(4)) {
                case 0: text.insert(at, letter); break;
                case 1: text.setLength(at); break;
                case 2: text.append(letter); break;
                default: text.setCharAt(Math.min(at, text.length() - 1), letter); break;
            }
            if (text.length() == 0) {
                text.append('N');
            }
        }
        text.setLength(Math.min(text.length(), 100));
        return text.toString();
    }

    /** Mostly 0 to most, now and then a little or far outside. */
    private int number(int most) {
        switch (random.nextInt(40)) {
            case 0: return -1;
            case 1: return most + 1;
            case 2: return random.nextInt();
            case 3: return random.nextBoolean() ? Integer.MIN_VALUE : Integer.MAX_VALUE;
            default: return random.nextInt(most + 1);
        }
    }

    private int proxy() {
        return number(Math.max(1, model.count(1)) - 1);
    }

    /** Often a page of a shelf, for acts that find their page. */
    private int page() {
        int shelf = model.count(1) == 0 ? UNKNOWN_PAGE : model.page(random.nextInt(model.count(1)), random.nextInt(9));
        return shelf >= 0 && random.nextInt(2) == 0 ? shelf : number(31);
    }

    private static final int UNKNOWN_PAGE = -1;

    private void call(String name) {
        int a = proxy();
        int p = page();
        boolean flag = random.nextBoolean();
        switch (name) {
            case "fault": same(name, x.fault(), model.fault()); break;
            case "net": same(name, x.net(), model.net()); break;
            case "undo": same(name, x.undo(), model.undo()); break;
            case "unsee": same(name, x.unsee(), model.unsee()); break;
            case "which": same(name, x.which(), model.which()); break;
            case "send": same(name + " " + a, x.send(a), model.send(a)); break;
            case "weight": same(name + " " + a, x.weight(a), model.weight(a)); break;
            case "ask": same(name + " " + a + " " + p, x.ask(a, p), model.ask(a, p)); break;
            case "drop": same(name + " " + a + " " + p, x.drop(a, p), model.drop(a, p)); break;
            case "says": same(name + " " + a + " " + p + " " + flag, x.says(a, p, flag), model.says(a, p, flag)); break;
            case "share": same(name + " " + a + " " + flag, x.share(a, flag), model.share(a, flag)); break;
            default: callWithNumber(name, a, p, flag); break;
        }
    }

    private void callWithNumber(String name, int a, int p, boolean flag) {
        int k;
        switch (name) {
            case "proxy": k = number(7); same(name + " " + a + " " + k, x.proxy(a, k), model.proxy(a, k)); break;
            case "page": k = number(8); same(name + " " + a + " " + k, x.page(a, k), model.page(a, k)); break;
            case "counter": k = number(15); same(name + " " + a + " " + k, x.counter(a, k), model.counter(a, k)); break;
            case "threshold": k = number(9); same(name + " " + a + " " + k, x.threshold(a, k), model.threshold(a, k)); break;
            case "best": k = number(1); same(name + " " + a + " " + k, x.best(a, k), model.best(a, k)); break;
            case "use": k = number(2); same(name + " " + k, x.use(k), model.use(k)); break;
            case "drawn": k = number(20); same(name + " " + k, x.drawn(k), model.drawn(k)); break;
            case "keep": k = number(1); same(name + " " + k, x.keep(k), model.keep(k)); break;
            case "again": k = number(1); same(name + " " + k, x.again(k), model.again(k)); break;
            case "count": k = number(12); same(name + " " + k, x.count(k), model.count(k)); break;
            case "lost": k = number(10); same(name + " " + a + " " + p + " " + k + " " + flag, x.lost(a, p, k, flag), model.lost(a, p, k, flag)); break;
            default: callWithMore(name, a, p); break;
        }
    }

    private void callWithMore(String name, int a, int p) {
        int k = number(2);
        int n;
        switch (name) {
            case "hash": n = number(2); same(name + " " + k + " " + p + " " + n, x.hash(k, p, n), model.hash(k, p, n)); break;
            case "see": n = number(1); same(name + " " + a + " " + k + " " + n, x.see(a, k, n), model.see(a, k, n)); break;
            case "seed": long v = random.nextLong(); same(name, x.seed(v), model.seed(v)); break;
            case "plan": {
                n = number(4);
                int row = (int) row(n, 2);
                same(name + " " + a + " " + n + " " + row, x.plan(a, n, row), model.plan(a, n, row));
                break;
            }
            case "order": {
                int set = pageSet();
                n = number(6) - 1;
                same(name + " " + a + " " + set + " " + n, x.order(a, set, n), model.order(a, set, n));
                break;
            }
            default: {
                n = number(3);
                long row = row(n, 5);
                same("judge " + n + " " + row, x.judge(n, row), model.judge(n, row));
                break;
            }
        }
    }

    private int pageSet() {
        int set = random.nextInt(20) == 0 ? random.nextInt() : 0;
        for (int i = random.nextInt(7); i > 0; i--) {
            set |= 1 << page();
        }
        return set;
    }

    private long row(int n, int width) {
        long row = 0;
        for (int i = 0; i < n && i < 5; i++) {
            row = row * (width == 2 ? 100 : 100000) + (width == 2 ? page() % 100 : step());
        }
        switch (random.nextInt(30)) {
            case 0: return -row;
            case 1: return row * 10 + random.nextInt(10);
            case 2: return random.nextLong();
            case 3: return row + random.nextInt(100000);
            default: return row;
        }
    }

    private int step() {
        int sort = random.nextInt(30) == 0 ? random.nextInt(10) : 1 + random.nextInt(7);
        int who = random.nextInt(20) == 0 ? random.nextInt(10) : Math.floorMod(proxy(), 10);
        boolean paged = sort == 1 || sort == 2 || sort == 4 || sort == 5 || random.nextInt(30) == 0;
        int p = paged ? Math.floorMod(page(), 100) : 0;
        int v = 0;
        if (sort >= 4 && sort <= 6 || random.nextInt(30) == 0) {
            v = sort == 6 && random.nextInt(4) > 0 ? Math.max(0, model.proxy(who, 3)) : random.nextInt(10) == 0 ? 2 : random.nextInt(2);
            if (sort == 4 && random.nextInt(3) > 0) {
                v = model.count(1) > who && (model.proxy(who, 7) >> p & 1) == 1 ? 1 : 0;
            }
        }
        return sort * 10000 + who * 1000 + p * 10 + v;
    }

    private void same(String call, long got, long due) {
        calls++;
        if (log.length() > 3000) {
            log.delete(0, 1000);
        }
        log.append(' ').append(call).append(';');
        if (got != due && agree) {
            agree = false;
            log.append(" answered ").append(got).append(", due is ").append(due);
        }
    }
}
