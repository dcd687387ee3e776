import java.io.IOException;
import java.nio.file.Files;
import java.nio.file.Path;
import java.util.function.IntSupplier;

/** Counts answers that are due and prints those that did not come. */
final class Due {
    private static final Path DOCUMENT = Path.of("../shared/DOC.md");

    private String of = "";
    private String document;
    private int sentences;
    private int passed;
    private int failed;

    void is(String call, long got, long want) {
        if (got == want) {
            passed++;
        } else {
            failed++;
            System.out.println(of + call + " answered " + got + ", due is " + want);
        }
    }

    void holds(String what, boolean so) {
        is(what, so ? 1 : 0, 1);
    }

    /** A call that is refused; what can be seen of the object stays as it is. */
    void refused(SecondSilence x, String call, IntSupplier answer, int want) {
        long before = x.digest();
        is(call, answer.getAsInt(), want);
        is("digest behind the refused " + call, x.digest(), before);
    }

    /** A test of one sentence; the words are the document's own, of that promise or, of 0, from anywhere in it. */
    void sentence(int promise, String words, Runnable test) {
        of = (promise == 0 ? "Terms" : "Promise " + promise) + ", '" + words + "': ";
        if (Files.isReadable(DOCUMENT)) {
            holds("the document says so", part(promise).contains(words));
        }
        int before = passed + failed;
        test.run();
        holds("something was looked at", passed + failed > before);
        of = "";
        sentences++;
    }

    private String part(int promise) {
        String all = document();
        if (promise == 0) {
            return all;
        }
        int from = all.indexOf("## Promise " + promise + ":");
        int to = from < 0 ? -1 : all.indexOf("\n## ", from);
        return to < 0 ? "" : all.substring(from, to);
    }

    private String document() {
        if (document == null) {
            try {
                document = Files.readString(DOCUMENT);
            } catch (IOException unreadable) {
                throw new IllegalStateException(unreadable);
            }
        }
        return document;
    }

    int failed() {
        return failed;
    }

    void close(String test) {
        String told = sentences == 0 ? "" : sentences + " sentences, ";
        System.out.println(test + ": " + told + passed + " answers as due, " + failed + " not");
        if (failed != 0) {
            System.exit(1);
        }
    }

    static SecondSilence with(String page) {
        SecondSilence x = new SecondSilence();
        write(x, page);
        return x;
    }

    static void write(SecondSilence x, String page) {
        for (int i = 0; i < page.length(); i++) {
            x.letter(page.charAt(i));
        }
    }

    static SecondSilence in(String hall) {
        SecondSilence x = with(hall);
        if (x.hall() < 2) {
            throw new IllegalStateException("no hall: " + hall);
        }
        return x;
    }
}
