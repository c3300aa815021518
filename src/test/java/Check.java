import java.io.IOException;
import java.nio.charset.StandardCharsets;
import java.nio.file.Files;
import java.nio.file.Path;
import java.util.NoSuchElementException;
import java.util.Set;
import java.util.TreeSet;

/**
 * Holds answers against what is due, sentence by sentence. A sentence is quoted from the document, and the quotation is
 * looked up there: a test can't claim a sentence that the document doesn't have.
 */
final class Check {
    private static final Path DOCUMENT = Path.of("../shared/DOC.md");

    private final String document;
    private final Set<Integer> promises = new TreeSet<>();
    private String sentence = "";
    private int sentences = 0;
    private int wrong = 0;

    interface Made {
        BinProver make();
    }

    interface Call {
        int on(BinProver x);
    }

    Check() throws IOException {
        document = Files.readString(DOCUMENT, StandardCharsets.UTF_8).replaceAll("\\s+", " ");
    }

    /** What follows tests these words of a promise. */
    void promise(int number, String words) {
        promises.add(number);
        begin("promise " + number, words, "## Promise " + number + ":", "## ");
    }

    /** What follows tests these words of the terms. */
    void term(int number, String words) {
        begin("term " + number, words, "==== " + number + ".", "==== ");
    }

    private void begin(String where, String words, String from, String to) {
        sentence = where + ", \"" + words + "\"";
        sentences++;
        int start = document.indexOf(from);
        int end = start < 0 ? -1 : document.indexOf(to, start + from.length());
        String section = start < 0 ? "" : document.substring(start, end < 0 ? document.length() : end);
        if (!section.contains(words)) {
            fail("the document has no such words there");
        }
    }

    private void fail(String what) {
        wrong++;
        System.out.println(sentence + ": " + what);
    }

    void due(String call, long got, long want) {
        if (got != want) {
            fail(call + " answered " + got + ", due is " + want);
        }
    }

    /** Answers of one call for 0, 1 .. */
    void dueAll(String call, BinProver x, OfNumber asked, int... want) {
        for (int i = 0; i < want.length; i++) {
            due(call + " " + i, asked.of(x, i), want[i]);
        }
    }

    interface OfNumber {
        int of(BinProver x, int i);
    }

    void dueSame(String what, String got, String want) {
        if (!got.equals(want)) {
            fail(what + " is " + got + ", due is " + want);
        }
    }

    void noElement(String call, Made made, Call asked) {
        thrown(call, made.make(), asked, NoSuchElementException.class);
    }

    void noArgument(String call, Made made, Call asked) {
        thrown(call, made.make(), asked, IllegalArgumentException.class);
    }

    /** The call throws just this, and nothing changes by it. */
    private void thrown(String call, BinProver x, Call asked, Class<?> want) {
        String before = state(x) + status(x);
        try {
            fail(call + " answered " + asked.on(x) + ", due is " + want.getSimpleName());
        } catch (RuntimeException e) {
            if (e.getClass() != want) {
                fail(call + " threw " + e + ", due is " + want.getSimpleName());
            }
        }
        dueSame("the state behind " + call, state(x) + status(x), before);
    }

    /** The call answers NONE, one refusal more is counted there, and nothing else changes. */
    void refused(String call, int status, Made made, Call asked) {
        BinProver x = made.make();
        String before = state(x);
        int[] refusals = {x.count(10), x.count(11), x.count(12)};
        refusals[status]++;
        due(call, asked.on(x), BinProver.NONE);
        dueSame("the state behind " + call, state(x), before);
        dueSame("the status behind " + call, status(x), " status " + refusals[0] + " " + refusals[1] + " " + refusals[2]);
    }

    static String status(BinProver x) {
        return " status " + x.count(10) + " " + x.count(11) + " " + x.count(12);
    }

    /** All that can be seen of an object, but for the STATUS. */
    static String state(BinProver x) {
        StringBuilder seen = new StringBuilder();
        for (int what : new int[] {0, 1, 2, 3, 4, 7, 8, 9}) {
            seen.append(x.count(what)).append(' ');
        }
        for (int sort = 0; sort < x.count(1); sort++) {
            seen.append("; ").append(x.sort(sort, 0)).append(' ').append(x.sort(sort, 1));
        }
        for (int bin = 0; bin < x.count(3); bin++) {
            seen.append(" |");
            for (int sort = 0; sort < x.count(1); sort++) {
                seen.append(' ').append(x.bin(bin, sort));
            }
        }
        return seen.append(" fault ").append(x.fault()).toString();
    }

    /** How many bytes of the text there are; the tape behind them is filled up with what is no token. */
    static int feed(BinProver x, String text) {
        byte[] bytes = text.getBytes(StandardCharsets.ISO_8859_1);
        for (int at = 0; at < bytes.length; at += 20) {
            int[] n = new int[5];
            for (int i = 0; i < 20; i++) {
                n[i / 4] = n[i / 4] << 8 | (at + i < bytes.length ? bytes[at + i] & 255 : 'Z');
            }
            x.feed(n[0], n[1], n[2], n[3], n[4]);
        }
        return bytes.length;
    }

    static int tell(BinProver x, String text) {
        return x.goods(feed(x, text));
    }

    BinProver told(String text) {
        BinProver x = new BinProver();
        due("goods of '" + text + "'", tell(x, text), 0);
        return x;
    }

    /** A text without a FAULT. */
    void fine(String text) {
        due("goods of '" + text + "'", tell(new BinProver(), text), 0);
    }

    /** A text with a FAULT at a place. */
    void faulty(String text, int fault, int place) {
        BinProver x = new BinProver();
        due("goods of '" + text + "'", tell(x, text), fault);
        due("the place in '" + text + "'", x.fault(), place);
    }

    /** Ends the test; each promise from the first to the last one must have been quoted. */
    void end(int first, int last) {
        for (int number = first; number <= last; number++) {
            sentence = "promise " + number;
            if (!promises.contains(number)) {
                fail("no sentence of it is tested");
            }
        }
        System.out.println(wrong == 0 ? sentences + " sentences hold" : wrong + " answers are not as due");
        System.exit(wrong == 0 ? 0 : 1);
    }
}
