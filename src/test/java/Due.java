/** Counts answers that are due and prints those that did not come. */
final class Due {
    private int passed;
    private int failed;

    void is(String call, long got, long want) {
        if (got == want) {
            passed++;
        } else {
            failed++;
            System.out.println(call + " answered " + got + ", due is " + want);
        }
    }

    void holds(String what, boolean so) {
        is(what, so ? 1 : 0, 1);
    }

    int failed() {
        return failed;
    }

    void close(String test) {
        System.out.println(test + ": " + passed + " answers as due, " + failed + " not");
        if (failed != 0) {
            System.exit(1);
        }
    }

    static SecondSilence with(String page) {
        SecondSilence x = new SecondSilence();
        write(x, page);
        return x;
    }

    static void write(SecondSilence x, String page) {
        for (int i = 0; i < page.length(); i++) {
            x.letter(page.charAt(i));
        }
    }

    static SecondSilence in(String hall) {
        SecondSilence x = with(hall);
        if (x.hall() < 2) {
            throw new IllegalStateException("no hall: " + hall);
        }
        return x;
    }
}
