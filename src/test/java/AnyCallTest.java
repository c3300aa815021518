import java.util.NoSuchElementException;

/**
 * Each call with the far ends of its numbers, in states of every kind: it answers, or throws what the document lets it
 * throw, and what the machine itself would throw never comes out.
 */
public final class AnyCallTest {
    private static final int[] ENDS = {Integer.MIN_VALUE, Integer.MIN_VALUE + 1, -65536, -13, -7, -2, -1, 0, 1, 2, 3, 4, 5, 6,
        7, 8, 11, 12, 13, 20, 21, 23, 24, 25, 40, 41, 60, 61, 99, 100, 127, 128, 700, 701, 65536, Integer.MAX_VALUE - 1,
        Integer.MAX_VALUE};
    private static final int NOTHING = 0;
    private static final int ELEMENT = 1;
    private static final int ARGUMENT = 2;
    private static int wrong = 0;

    interface Two {
        void ask(BinProver x, int a, int b);
    }

    interface Made {
        BinProver make();
    }

    public static void main(String[] args) {
        String[] texts = {"", "capacity 1;", "capacity 1;sort 1 12;sort 1 12;", "capacity 99;" + "sort 1 4;".repeat(6),
            "capacity 99;sort 99 12;sort 98 12;bin 0;", "capacity 10;sort 3 4;sort 3 5;sort 4 8;sort 3 7;bin 1 2;bin 0;",
            "capacity 9;sort 9 4;sort 8 4;sort 7 4;sort 6 4;sort 5 4;sort 9 4;" + "bin 0;".repeat(12),
            "capacity 99;sort 1 0;bin" + " 0".repeat(99) + ";bin 0;", "sort 30 0;sort 1 0;bin 1 1;"};
        everyCall("a new object", BinProver::new);
        for (String text : texts) {
            everyCall(text, () -> told(text, false));
            everyCall(text + ", with acts, notes, an image and a tape", () -> told(text, true));
        }
        System.out.println(wrong == 0 ? "every call ends as it may" : wrong + " calls end otherwise");
        System.exit(wrong == 0 ? 0 : 1);
    }

    private static BinProver told(String text, boolean busy) {
        BinProver x = new BinProver();
        if (Check.tell(x, text) != 0) {
            wrong++;
            System.out.println("a fault in " + text);
        }
        if (busy) {
            for (int i = 0; i < 45; i++) {
                x.rest(i % 6, i % 3);
                x.pack(i % 6, i % 4);
                x.note(i % 8, i % 25);
            }
            x.image();
            for (int i = 0; i < 40; i++) {
                x.feed(i, -i, 0x736f7274, 0x20312031, 0x3b202020);
            }
            x.undo();
        }
        return x;
    }

    private static void everyCall(String state, Made made) {
        one(state + ": feed", made, NOTHING, (x, a, b) -> x.feed(a, a, a, a, a));
        one(state + ": goods", made, ARGUMENT, (x, a, b) -> x.goods(a));
        one(state + ": count", made, ELEMENT, (x, a, b) -> x.count(a));
        two(state + ": sort", made, ELEMENT, BinProver::sort);
        two(state + ": bin", made, ELEMENT, BinProver::bin);
        one(state + ": rule", made, ELEMENT, (x, a, b) -> x.rule(a));
        two(state + ": into", made, ELEMENT, BinProver::into);
        one(state + ": guaranteed", made, ELEMENT, (x, a, b) -> x.guaranteed(a));
        one(state + ": bound", made, ELEMENT, (x, a, b) -> x.bound(a));
        one(state + ": split", made, ARGUMENT, (x, a, b) -> x.split(a));
        one(state + ": step", made, ARGUMENT, (x, a, b) -> x.step(a));
        one(state + ": patterns", made, ELEMENT, (x, a, b) -> x.patterns(a));
        two(state + ": pattern", made, ELEMENT, BinProver::pattern);
        one(state + ": tree", made, ELEMENT, (x, a, b) -> x.tree(a));
        two(state + ": best", made, ELEMENT, BinProver::best);
        one(state + ": net", made, ELEMENT, (x, a, b) -> x.net(a));
        two(state + ": high", made, ELEMENT, BinProver::high);
        two(state + ": pack", made, NOTHING, BinProver::pack);
        two(state + ": put", made, NOTHING, BinProver::put);
        two(state + ": take", made, NOTHING, BinProver::take);
        two(state + ": rest", made, NOTHING, BinProver::rest);
        two(state + ": join", made, NOTHING, BinProver::join);
        one(state + ": load", made, NOTHING, (x, a, b) -> x.load());
        one(state + ": undo", made, NOTHING, (x, a, b) -> x.undo());
        two(state + ": topUp", made, ELEMENT, BinProver::topUp);
        one(state + ": toHold", made, ARGUMENT, (x, a, b) -> x.toHold(a));
        one(state + ": spare", made, ELEMENT, (x, a, b) -> x.spare(a));
        two(state + ": note", made, NOTHING, BinProver::note);
        one(state + ": other", made, ELEMENT, (x, a, b) -> x.other(a));
        one(state + ": look", made, ELEMENT, (x, a, b) -> x.look(a));
        two(state + ": odds", made, ELEMENT | ARGUMENT, BinProver::odds);
        two(state + ": years", made, ELEMENT | ARGUMENT, (x, a, b) -> x.years(a, b, 1, 0));
        two(state + ": years", made, ELEMENT | ARGUMENT, (x, a, b) -> x.years(-5, 60, a, b));
        one(state + ": restore", made, NOTHING, (x, a, b) -> x.restore());
    }

    private static void one(String call, Made made, int may, Two asked) {
        BinProver x = made.make();
        for (int a : ENDS) {
            ends(call + " " + a, x, may, y -> asked.ask(y, a, 0));
        }
    }

    /** A new object for each first number: it is used for some calls only. */
    private static void two(String call, Made made, int may, Two asked) {
        for (int a : ENDS) {
            BinProver x = made.make();
            for (int b : ENDS) {
                ends(call + " " + a + " " + b, x, may, y -> asked.ask(y, a, b));
            }
        }
    }

    interface One {
        void ask(BinProver x);
    }

    private static void ends(String call, BinProver x, int may, One asked) {
        try {
            asked.ask(x);
        } catch (RuntimeException e) {
            int is = e.getClass() == NoSuchElementException.class ? ELEMENT
                    : e.getClass() == IllegalArgumentException.class ? ARGUMENT : NOTHING;
            if ((may & is) == 0) {
                wrong++;
                System.out.println(call + " threw " + e);
            }
        }
    }
}
