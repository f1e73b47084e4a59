/** Counts the checks of all tests and prints those that fail. */
final class Check {
    static int passed = 0;
    static int failed = 0;

    private Check() {
    }

    static void same(String what, long got, long due) {
        that(what + ": got " + got + ", due is " + due, got == due);
    }

    static void that(String what, boolean holds) {
        if (holds) {
            passed++;
        } else {
            failed++;
            if (failed <= 50) {
                System.out.println("FAILED " + what);
            }
        }
    }

    /** A new object with a text in it. */
    static ShelfFilters withText(String text) {
        ShelfFilters x = new ShelfFilters();
        write(x, text);
        return x;
    }

    static void write(ShelfFilters x, String text) {
        for (char letter : text.toCharArray()) {
            x.write(letter);
        }
    }

    /** A new object with the net of a text, which must have no fault. */
    static ShelfFilters net(String text) {
        ShelfFilters x = withText(text);
        that("the net of " + text, x.net() >= 0);
        return x;
    }
}
