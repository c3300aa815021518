import java.io.IOException;

/** The edges of what is asked beside the proof, of notes, odds, years and the image: term 3, promises 27 to 37. */
public final class AskEdgeTest {
    private static final int[] FAR = {Integer.MIN_VALUE, -100, -2, 100, 1000, Integer.MAX_VALUE};
    private static final String THREE = "capacity 10;sort 3 2;sort 6 2;sort 4 2;";
    private static Check check;

    public static void main(String[] args) throws IOException {
        check = new Check();
        topUp();
        waste();
        toHold();
        critical();
        spare();
        apart();
        note();
        other();
        otherOrder();
        look();
        forget();
        odds();
        years();
        yearsBySeed();
        yearsThrown();
        status();
        image();
        restore();
        check.end(27, 37);
    }

    private static BinProver three() {
        return check.told(THREE);
    }

    private static BinProver forTopUp() {
        return check.told("capacity 10;sort 2 1;sort 3 1;sort 4 1;sort 5 1;bin 1;bin 3 3;bin 0 0 0 0;");
    }

    private static void topUp() {
        check.term(3, "of goods of REST that fit besides into it the greatest SIZES together, of like ones the FIRST");
        BinProver x = forTopUp();
        check.due("5 and 2 fit just", x.topUp(0, -1), 7);
        check.dueAll("ahead of 4 and 3", x, (y, i) -> y.topUp(0, i), 1, 0, 0, 1);
        BinProver two = check.told("capacity 10;sort 4 1;sort 3 2;bin 0;");
        check.due("the greater together", two.topUp(0, -1), 6);
        check.dueAll("ahead of the FIRST", two, (y, i) -> y.topUp(0, i), 0, 2);
        BinProver like = check.told("capacity 10;sort 5 1;sort 5 1;bin 0;");
        check.dueAll("of like sizes the less number", like, (y, i) -> y.topUp(0, i), 1, 0);
        check.promise(27, "TOP UP of a BIN: how many of a SORT; of SORT NONE SIZES together.");
        check.dueAll("a full one", x, (y, i) -> y.topUp(1, i - 1), 0, 0, 0, 0, 0);
        check.dueAll("2 free", x, (y, i) -> y.topUp(2, i - 1), 2, 1, 0, 0, 0);
        check.due("nothing there", check.told("sort 5 0;bin 0;").topUp(0, -1), 0);
        check.due("all there is", check.told("capacity 99;sort 1 12;sort 2 12;bin 0;").topUp(0, -1), 36);
        check.due("no more than there are", check.told("capacity 99;sort 1 12;sort 2 12;bin 0;").topUp(0, 0), 12);
        check.due("98 free", check.told("capacity 99;sort 1 0;sort 98 2;bin 0;").topUp(0, 1), 1);
        check.due("97 free", check.told("capacity 99;sort 1 0;sort 98 2;bin 0 0;").topUp(0, 1), 0);
        // 4 3 3 fill the 10 that are free; 5 4 don't
        BinProver ten = check.told("capacity 12;sort 5 1;sort 4 1;sort 3 2;sort 2 0;bin 3;");
        check.dueAll("without the greatest", ten, (y, i) -> y.topUp(0, i), 0, 1, 2, 0);
        check.dueAll("a full one, and size 1", check.told("capacity 5;sort 5 0;sort 1 3;bin 0;"),
                (y, i) -> y.topUp(0, i - 1), 0, 0, 0);
        BinProver less = check.told("capacity 10;sort 3 1;sort 2 1;bin 0;");
        check.dueAll("both", less, (y, i) -> y.topUp(0, i), 1, 1);
        check.due("one goes", less.rest(0, 0), 1);
        check.dueAll("the other one", less, (y, i) -> y.topUp(0, i), 0, 1);
        check.due("the other one goes, too", less.rest(1, 0), 1);
        check.dueAll("nothing", less, (y, i) -> y.topUp(0, i), 0, 0);
        check.promise(27, "NoSuchElementException: also no such SORT.");
        check.noElement("bin -1", AskEdgeTest::forTopUp, y -> y.topUp(-1, 0));
        check.noElement("bin 3", AskEdgeTest::forTopUp, y -> y.topUp(3, 0));
        check.noElement("bin 0 of none", AskEdgeTest::three, y -> y.topUp(0, 0));
        check.noElement("sort 4", AskEdgeTest::forTopUp, y -> y.topUp(0, 4));
        check.noElement("sort -2", AskEdgeTest::forTopUp, y -> y.topUp(0, -2));
        for (int far : FAR) {
            check.noElement("bin " + far, AskEdgeTest::forTopUp, y -> y.topUp(far, 0));
            check.noElement("sort " + far, AskEdgeTest::forTopUp, y -> y.topUp(0, far));
        }
    }

    private static void waste() {
        check.term(3, "WASTE: what is free in BINS that are there.");
        check.due("no bins", three().count(4), 0);
        check.due("full ones", check.told("capacity 5;sort 5 1;bin 0;bin 0;").count(4), 0);
        check.due("7, 0 and 2", forTopUp().count(4), 9);
    }

    private static void toHold() {
        check.term(3, "the least CAPACITY (the greatest SIZE of REST to 99; 1 without)");
        check.due("the greatest size", three().toHold(24), 6);
        check.due("the greatest size of rest", check.told("sort 9 0;sort 2 3;bin 0;").toHold(3), 2);
        check.due("just 99", check.told("sort 30 3;sort 9 1;").toHold(1), 99);
        check.due("above 99", check.told("sort 30 3;sort 10 1;").toHold(1), -1);
        check.due("99 alone", check.told("capacity 99;sort 99 2;").toHold(2), 99);
        check.due("without any", new BinProver().toHold(1), 1);
        check.due("without rest", check.told("sort 9 0;").toHold(24), 1);
        check.due("of size 1", check.told("sort 1 12;sort 1 12;").toHold(24), 1);
        check.due("of size 1 in one", check.told("sort 1 12;sort 1 12;").toHold(1), 24);
        check.due("the greatest is the first one, and one", check.told("sort 9 1;sort 1 1;").toHold(2), 9);
        check.due("the greatest is the first one, and one", check.told("sort 9 1;sort 1 1;").toHold(24), 9);
        check.term(3, "by which FEWEST would be so many or fewer; none");
        check.due("three of 5 in two, above what the sizes together need", check.told("sort 5 3;").toHold(2), 10);
        check.due("7, 7 and 5 in two", forOther().toHold(2), 12);
        check.due("three of 50 in two", check.told("capacity 50;sort 50 3;").toHold(2), -1);
        check.due("three of 49 in two", check.told("capacity 50;sort 49 3;").toHold(2), 98);
        check.due("in one", three().toHold(1), 26);
        check.due("in two, by the tree alone", three().toHold(2), 13);
        check.due("in three", three().toHold(3), 9);
        // 6 alone twice; 4 and 3 by 7; by 6 4 is alone, too
        check.due("in four", three().toHold(4), 7);
        check.due("in five", three().toHold(5), 6);
        check.promise(28, "NONE: none.");
        check.due("two of 99 in one", check.told("capacity 99;sort 99 2;").toHold(1), -1);
        check.due("24 of 99 in 23", check.told("capacity 99;sort 99 12;sort 99 12;").toHold(23), -1);
        check.due("24 of 99 in 24", check.told("capacity 99;sort 99 12;sort 99 12;").toHold(24), 99);
        check.due("two of 50", check.told("capacity 50;sort 50 2;").toHold(1), -1);
        check.due("50 and 49", check.told("capacity 50;sort 50 1;sort 49 1;").toHold(1), 99);
        check.promise(28, "TO HOLD all in so many BINS (1 to 24)");
        BinProver x = three();
        check.due("24", x.toHold(24), 6);
        check.due("the capacity stays", x.count(0), 10);
        check.promise(28, "IllegalArgumentException: many.");
        check.noArgument("0", AskEdgeTest::three, y -> y.toHold(0));
        check.noArgument("-1", AskEdgeTest::three, y -> y.toHold(-1));
        check.noArgument("25", AskEdgeTest::three, y -> y.toHold(25));
        check.noArgument("0 of none", BinProver::new, y -> y.toHold(0));
        for (int far : FAR) {
            check.noArgument("many " + far, AskEdgeTest::three, y -> y.toHold(far));
        }
    }

    private static void critical() {
        check.term(3, "CRITICAL are SORTS one of which less would make FEWEST less.");
        check.due("6 alone", three().count(5), 2);
        check.due("all of them", check.told("capacity 10;sort 3 2;sort 6 2;sort 4 1;").count(5), 7);
        check.due("but none that isn't there", check.told("capacity 10;sort 10 0;sort 6 1;sort 5 1;").count(5), 6);
        check.due("none of them", check.told("capacity 10;sort 3 1;sort 4 1;").count(5), 0);
        check.due("of none", new BinProver().count(5), 0);
        BinProver x = three();
        x.count(5);
        check.due("rest stays", x.count(2), 6);
    }

    private static void spare() {
        check.term(3, "how many more of it (0 to 12; 24 of all at most) FEWEST would stay the same with");
        check.due("12 of more that fit", check.told("capacity 99;sort 1 4;sort 1 0;").spare(0), 12);
        check.due("12 of what isn't there yet", check.told("capacity 99;sort 1 4;sort 1 0;").spare(1), 12);
        check.due("12 beside 12", check.told("capacity 99;sort 1 12;").spare(0), 12);
        check.due("24 of all", check.told("capacity 99;sort 1 4;sort 1 12;").spare(0), 8);
        check.due("24 of all are there", check.told("capacity 99;sort 1 12;sort 1 12;").spare(0), 0);
        check.due("23 of all are there", check.told("capacity 99;sort 1 12;sort 1 11;").spare(0), 1);
        check.due("the first one is too much", check.told("sort 1 0;").spare(0), 0);
        check.term(3, "the greatest such that it does with each less, too");
        check.due("5 fill it just", check.told("capacity 10;sort 5 1;sort 1 0;").spare(1), 5);
        check.due("none fits", check.told("capacity 10;sort 10 1;sort 1 0;").spare(1), 0);
        check.due("3", three().spare(0), 1);
        check.due("6", three().spare(1), 0);
        check.due("4", three().spare(2), 1);
        check.due("the 12th is too much", check.told("capacity 12;sort 1 1;").spare(0), 11);
        check.due("the 12th fits just", check.told("capacity 13;sort 1 1;").spare(0), 12);
        check.due("the 24th of all is too much", check.told("capacity 23;sort 1 12;sort 1 11;").spare(0), 0);
        check.due("the 24th of all fits just", check.told("capacity 24;sort 1 12;sort 1 11;").spare(0), 1);
        check.promise(29, "SPARE.");
        BinProver x = three();
        x.spare(0);
        check.due("rest stays", x.count(2), 6);
        check.due("no act", x.count(7), 0);
        check.noElement("sort -1", AskEdgeTest::three, y -> y.spare(-1));
        check.noElement("sort 3", AskEdgeTest::three, y -> y.spare(3));
        check.noElement("sort 0 of none", BinProver::new, y -> y.spare(0));
        check.noElement("sort 6 of six", () -> check.told("sort 1 1;".repeat(6)), y -> y.spare(6));
        for (int far : FAR) {
            check.noElement("sort " + far, AskEdgeTest::three, y -> y.spare(far));
        }
    }

    private static void apart() {
        check.term(3, "APART: FEWEST of each SORT alone, all together.");
        check.due("1, 2 and 1", three().count(6), 4);
        check.due("of none", check.told("sort 5 0;").count(6), 0);
        check.due("just full", check.told("capacity 10;sort 5 4;sort 2 5;").count(6), 3);
        check.due("one too many", check.told("capacity 10;sort 5 5;sort 2 6;").count(6), 5);
    }

    private static BinProver noted(int many) {
        BinProver x = three();
        for (int i = 1; i <= many; i++) {
            check.due("note", x.note(i % 8, 3), i);
        }
        return x;
    }

    private static void note() {
        check.term(3, "NOTED (at most 8): how many BINS a RULE (0 to 7) gave.");
        check.due("the eighth", noted(8).count(8), 8);
        check.due("rule 0", three().note(0, 3), 1);
        check.due("rule 7", three().note(7, 3), 1);
        check.promise(30, "NOTED: how much is.");
        BinProver x = three();
        check.due("0 bins", x.note(3, 0), 1);
        check.due("24 bins", x.note(3, 24), 2);
        check.due("the same again", x.note(3, 24), 3);
        check.due("no act", x.count(7), 0);
        check.due("without goods", new BinProver().note(0, 0), 1);
        check.promise(30, "NONE (STATUS 2): there are 8, no such RULE, not 0 to 24 BINS.");
        check.refused("the ninth", 2, () -> noted(8), y -> y.note(0, 3));
        check.refused("rule -1", 2, AskEdgeTest::three, y -> y.note(-1, 3));
        check.refused("rule 8", 2, AskEdgeTest::three, y -> y.note(8, 3));
        check.refused("-1 bins", 2, AskEdgeTest::three, y -> y.note(0, -1));
        check.refused("25 bins", 2, AskEdgeTest::three, y -> y.note(0, 25));
        check.refused("each wrong", 2, () -> noted(8), y -> y.note(8, 25));
        for (int far : FAR) {
            check.refused("rule " + far, 2, AskEdgeTest::three, y -> y.note(far, 3));
            check.refused("bins " + far, 2, AskEdgeTest::three, y -> y.note(0, far));
        }
        BinProver refused = noted(7);
        check.due("refused", refused.note(8, 9), -1);
        check.due("it is not noted", refused.other(2), 1);
    }

    private static BinProver forOther() {
        return check.told("capacity 10;sort 7 2;sort 5 1;");
    }

    private static void other() {
        check.term(3, "OTHER: SORTS and SIZES (another one, 1 to CAPACITY), by one of which");
        check.due("9 of each", forOther().other(0), 18);
        check.due("the first", forOther().other(1), 1);
        BinProver one = check.told("capacity 1;sort 1 1;");
        check.due("there is no other size", one.other(0), 0);
        check.due("none is first", one.other(1), -1);
        check.due("it is so without", one.other(2), 1);
        // two of size 10 alone need two bins besides a 10
        BinProver greatest = check.told("capacity 10;sort 5 2;");
        check.due("note", greatest.note(1, 2), 1);
        check.due("6 to 10", greatest.other(0), 5);
        check.due("the first is 6", greatest.other(1), 6);
        BinProver least = check.told("capacity 3;sort 3 3;");
        check.due("note", least.note(1, 1), 1);
        check.due("1 alone", least.other(0), 1);
        check.due("it is 1", least.other(1), 1);
        check.term(3, "how many; the first (100 by the SORT, and SIZE); whether it is so without (1)");
        BinProver x = forOther();
        check.due("note", x.note(5, 2), 1);
        check.due("7 as 3, 4, 5; 5 as 1, 2, 3", x.other(0), 6);
        check.due("the first", x.other(1), 3);
        check.due("not so without", x.other(2), 0);
        BinProver second = check.told("capacity 99;sort 99 1;sort 98 1;");
        check.due("note", second.note(0, 2), 1);
        check.due("99 as 2 to 98; 98 as each of 1 to 99 but itself", second.other(0), 97 + 98);
        BinProver last = check.told("capacity 9;sort 9 4;sort 9 1;");
        check.due("note", last.note(0, 5), 1);
        check.due("note", last.note(1, 5), 2);
        check.due("9 as 5 to 8; 9 as 1 to 8", last.other(0), 12);
        check.due("so without", last.other(2), 1);
        BinProver sixth = check.told("capacity 9;sort 9 1;sort 9 1;sort 9 1;sort 9 1;sort 9 1;sort 2 2;");
        check.due("note", sixth.note(5, 7), 1);
        check.due("only the last sort", sixth.other(0), 5);
        check.due("of it 5 to 9", sixth.other(1), 505);
        check.promise(31, "OTHER: how many (what 0), the first (1; NONE: none), whether without (2).");
        BinProver none = forOther();
        check.due("note", none.note(0, 24), 1);
        check.dueAll("none", none, BinProver::other, 0, -1, 0);
        BinProver later = forOther();
        check.due("there is one", later.other(1), 1);
        check.due("note", later.note(0, 24), 1);
        check.due("there is none any more", later.other(1), -1);
        check.dueAll("no sorts", new BinProver(), BinProver::other, 0, -1, 1);
        check.promise(31, "NoSuchElementException: another what.");
        check.noElement("-1", AskEdgeTest::forOther, y -> y.other(-1));
        check.noElement("3", AskEdgeTest::forOther, y -> y.other(3));
        for (int far : FAR) {
            check.noElement("what " + far, AskEdgeTest::forOther, y -> y.other(far));
        }
    }

    private static void otherOrder() {
        check.term(3, "SORTS in the ORDER they then have, all NOTED would be so");
        // by rule 5 they come 8 8 6 6, but with 4 for 8 they come 6 6 4 4; so it is with 1 to 4 for 8, 1 and 2 for 6
        BinProver order = check.told("capacity 10;sort 8 2;sort 6 2;");
        check.due("note", order.note(5, 2), 1);
        check.dueAll("by the order", order, BinProver::other, 6, 1, 0);
        // by rule 1 with 4 for 8 they come 4 4 6 6; so it is with 3 to 5 for 8, 3 to 5 for 6
        BinProver numbers = check.told("capacity 10;sort 8 2;sort 6 2;");
        check.due("note", numbers.note(1, 3), 1);
        check.dueAll("by numbers", numbers, BinProver::other, 6, 3, 0);
        check.term(3, "all NOTED would be so");
        BinProver both = forOther();
        check.due("note", both.note(5, 2), 1);
        check.due("note", both.note(1, 3), 2);
        check.due("one of them is not so", both.other(0), 0);
        BinProver eight = forOther();
        for (int i = 0; i < 7; i++) {
            eight.note(5, 2);
        }
        check.due("seven", eight.other(0), 6);
        eight.note(5, 1);
        check.due("the eighth, too", eight.other(0), 0);
    }

    private static void look() {
        check.term(3, "LOOK NEXT: the RULE that by these gives the most unlike numbers (of like ones the least)");
        BinProver x = forOther();
        check.due("of like ones the least", x.look(0), 0);
        check.due("1, 2 and 3 bins", x.look(1), 3);
        check.due("note", x.note(5, 2), 1);
        check.due("all alike", x.look(0), 0);
        check.due("one number", x.look(1), 1);
        // 6 6 5 4 4 are 4 by rule 0; so it is with 7 to 10 for 6 (4 by rule 1), 6 to 10 for 5 (3), 3 for 4 (3), 5 for 4 (4)
        BinProver one = check.told("capacity 10;sort 6 2;sort 5 1;sort 4 2;");
        check.due("note", one.note(0, 4), 1);
        check.due("others", one.other(0), 11);
        check.due("another rule than the first", one.look(0), 1);
        check.due("3 and 4 bins", one.look(1), 2);
        // 4 4 2 2 and 3 3 1 1: 3 and 2 by rule 5, 3 and 3 by those ahead of it
        dueLook("capacity 4;sort 1 2;sort 4 2;", new int[] {3, 3, 3, 3}, 2, 5);
        // 2 2 3 1 and 1 1 2 1: 3 and 2 by rule 4, 2 and 2 by those ahead of it
        dueLook("capacity 4;sort 1 2;sort 3 1;sort 1 1;", new int[] {2}, 2, 4);
        // not by hand: the program's own answers, which the second model of NOTES.md gives as well
        dueLook("capacity 13;sort 3 2;sort 3 1;sort 8 1;sort 4 1;", new int[] {2, 2, 2, 2, 3, 2, 2}, 2, 7);
        check.term(3, "which; how many unlike; none without any");
        check.due("note", x.note(0, 24), 2);
        check.due("none", x.look(0), -1);
        check.due("none unlike", x.look(1), 0);
        BinProver only = check.told("capacity 1;sort 1 1;");
        check.due("no other one, though it is so", only.look(0), -1);
        check.due("none unlike", only.look(1), 0);
        BinProver many = check.told("capacity 24;sort 24 12;");
        check.due("1, 2, 3, 4, 6 and 12 bins", many.look(1), 6);
        check.promise(32, "LOOK NEXT: which (what 0; NONE), how many unlike (1; 0: none).");
        check.due("of none", new BinProver().look(0), -1);
        check.due("of none", new BinProver().look(1), 0);
        check.promise(32, "NoSuchElementException: another what.");
        check.noElement("-1", AskEdgeTest::forOther, y -> y.look(-1));
        check.noElement("2", AskEdgeTest::forOther, y -> y.look(2));
        check.noElement("2 of none", BinProver::new, y -> y.look(2));
        for (int far : FAR) {
            check.noElement("what " + far, AskEdgeTest::forOther, y -> y.look(far));
        }
    }

    /** Rules 0, 1 .. gave so many bins: then there are so many others, and another rule gives two numbers by them. */
    private static void dueLook(String text, int[] bins, int others, int rule) {
        BinProver x = check.told(text);
        for (int i = 0; i < bins.length; i++) {
            check.due("note", x.note(i, bins[i]), i + 1);
        }
        check.due("others of " + text, x.other(0), others);
        check.due("the rule of " + text, x.look(0), rule);
        check.due("unlike ones of " + text, x.look(1), 2);
    }

    private static void forget() {
        check.promise(33, "All that is NOTED is forgotten.");
        BinProver x = noted(8);
        x.forget();
        check.due("noted", x.count(8), 0);
        check.due("then the first one", x.note(0, 24), 1);
        check.due("it alone counts", x.other(2), 0);
        x.forget();
        x.forget();
        check.due("nothing to forget", x.count(8), 0);
        check.due("it is so without", x.other(2), 1);
        check.dueSame("nothing is refused", Check.status(x), " status 0 0 0");
        BinProver none = new BinProver();
        none.forget();
        check.due("of none", none.count(8), 0);
    }

    private static void odds() {
        check.term(3, "each of the first five things of a SORT (fewer, if there are no five) is missing");
        BinProver tens = check.told("capacity 10;sort 10 6;sort 10 5;sort 10 4;sort 10 1;sort 9 0;");
        check.due("any of the first five of six", tens.odds(0, 3), 100000 - 16807);
        check.due("of five", tens.odds(1, 3), 100000 - 16807);
        check.due("of four", tens.odds(2, 3), 100000 - 24010);
        check.due("of one", tens.odds(3, 3), 30000);
        check.due("of none", tens.odds(4, 3), 0);
        check.term(3, "with so many tenths (0 to 10), by itself: how likely FEWEST is less than now");
        check.due("never", tens.odds(0, 0), 0);
        check.due("always", tens.odds(0, 10), 100000);
        check.due("one tenth", tens.odds(3, 1), 10000);
        check.due("nine tenths", tens.odds(3, 9), 90000);
        // two of four in two bins by twos must be missing: 6, 4 and 1 of 16
        check.due("two of four", check.told("capacity 10;sort 5 4;").odds(0, 5), 68750);
        // by 9 of 10: 6 times 81, 4 times 9 times 81 and 81 times 81
        check.due("two of four by 9", check.told("capacity 10;sort 5 4;").odds(0, 9), 10 * (6 * 81 + 4 * 729 + 6561));
        // five of ten in five bins by twos: two, three, four or five
        check.due("two of five", check.told("capacity 10;sort 5 10;").odds(0, 5), 3125 * (32 - 1 - 5));
        check.due("all of them, but not enough", check.told("capacity 10;sort 1 6;").odds(0, 10), 0);
        check.due("all five of five", check.told("capacity 10;sort 1 5;").odds(0, 5), 3125);
        check.term(3, "as so many of 10 to the power of five (what isn't there: both ways alike)");
        check.due("one of one", check.told("sort 5 1;").odds(0, 7), 70000);
        check.promise(34, "ODDS. IllegalArgumentException (behind NoSuchElementException): tenths.");
        check.noArgument("-1", AskEdgeTest::three, x -> x.odds(0, -1));
        check.noArgument("11", AskEdgeTest::three, x -> x.odds(0, 11));
        check.noElement("sort -1", AskEdgeTest::three, x -> x.odds(-1, 5));
        check.noElement("sort 3", AskEdgeTest::three, x -> x.odds(3, 5));
        check.noElement("no sort, and 11", AskEdgeTest::three, x -> x.odds(3, 11));
        check.noElement("no sort, and -1", AskEdgeTest::three, x -> x.odds(-1, -1));
        check.noElement("sort 0 of none, and 11", BinProver::new, x -> x.odds(0, 11));
        for (int far : FAR) {
            check.noElement("sort " + far, AskEdgeTest::three, x -> x.odds(far, 5));
            check.noArgument("tenths " + far, AskEdgeTest::three, x -> x.odds(0, far));
        }
        BinProver rest = three();
        rest.odds(1, 5);
        check.due("rest stays", rest.count(2), 6);
    }

    private static BinProver forYears() {
        return check.told("capacity 10;sort 6 0;sort 3 0;bin 1;");
    }

    private static void years() {
        check.term(3, "n things (0 to 60), each of a DRAW of SORTS (nothing without)");
        check.dueAll("0 things", forYears(), (x, i) -> x.years(1, 0, 1, i), 1, 7, 0);
        check.dueAll("1 thing", forYears(), (x, i) -> x.years(1, 1, 1, i), 1, 1, 1);
        BinProver ones = check.told("capacity 99;sort 1 0;");
        check.dueAll("60 things", ones, (x, i) -> x.years(1, 60, 1, i), 1, 39, 0);
        check.dueAll("without sorts", new BinProver(), (x, i) -> x.years(1, 60, 3, i), 0, 0, 0);
        check.term(3, "come into BINS that are there, and new ones, by a RULE (0 to 3)");
        BinProver tens = check.told("capacity 10;sort 10 0;" + "bin 0;".repeat(12));
        for (int rule = 0; rule < 4; rule++) {
            int by = rule;
            check.dueAll("72 by " + rule, tens, (x, i) -> x.years(1, 60, by, i), 72, 0, 0);
        }
        // draws by seed 1: 6, 6, 3, 3, 3, 3, 6; there is a 3
        check.dueAll("0: 3 6; 6 3; 3 3 3; 6", forYears(), (x, i) -> x.years(1, 7, 0, i), 4, 7, 1);
        check.dueAll("1: 3 6; 6 3; 3 3 3; 6", forYears(), (x, i) -> x.years(1, 7, 1, i), 4, 7, 1);
        BinProver two = check.told("capacity 10;sort 6 0;sort 3 0;bin 0;bin 1;");
        check.dueAll("0: 6; 3 6; 6 3; 3", two, (x, i) -> x.years(1, 4, 0, i), 4, 13, 1);
        check.dueAll("1: 6 3; 3 6; 6 3", two, (x, i) -> x.years(1, 4, 1, i), 3, 3, 2);
        // draws of three by seed 1: 6, 2, 5, 2; there is a 5
        BinProver unlike = check.told("capacity 10;sort 5 0;sort 2 0;sort 6 0;bin 0;");
        check.dueAll("0: 5; 6 2; 5 2", unlike, (x, i) -> x.years(1, 4, 0, i), 3, 10, 0);
        check.dueAll("1: 5 2 2; 6; 5", unlike, (x, i) -> x.years(1, 4, 1, i), 3, 10, 2);
        check.dueAll("2: 5 5; 6 2 2", unlike, (x, i) -> x.years(1, 4, 2, i), 2, 0, 1);
        check.dueAll("3: 5 2; 6; 5 2", unlike, (x, i) -> x.years(1, 4, 3, i), 3, 10, 1);
        check.term(3, "how many BINS there are then; WASTE; how many came into BINS that are there now");
        BinProver x = forYears();
        String before = Check.state(x);
        x.years(1, 60, 2, 0);
        check.dueSame("nothing changes", Check.state(x), before);
    }

    private static void yearsBySeed() {
        check.term(3, "A seed becomes itself times 1103515245 and 12345 (an int that wraps)");
        BinProver two = check.told("capacity 99;sort 1 0;sort 2 0;");
        check.due("seed 0", two.years(0, 1, 0, 1), 98);
        check.due("seed 1", two.years(1, 1, 0, 1), 98);
        check.due("seed -1", two.years(-1, 1, 0, 1), 99 - drawn(-1, 1, 2));
        check.due("the least", two.years(Integer.MIN_VALUE, 1, 0, 1), 99 - drawn(Integer.MIN_VALUE, 1, 2));
        check.due("the greatest", two.years(Integer.MAX_VALUE, 1, 0, 1), 99 - drawn(Integer.MAX_VALUE, 1, 2));
        check.term(3, "a DRAW of n is its bits 16 to 30 MOD n then");
        // by seed 1: 16838, 5758 (bit 31 is set), 10113, 17515, 31051, 5627, 23010
        BinProver six = check.told("capacity 99;sort 1 0;sort 2 0;sort 3 0;sort 4 0;sort 5 0;sort 6 0;");
        int[] sizes = {16838 % 6 + 1, 5758 % 6 + 1, 10113 % 6 + 1, 17515 % 6 + 1, 31051 % 6 + 1, 5627 % 6 + 1, 23010 % 6 + 1};
        int together = 0;
        for (int n = 1; n <= sizes.length; n++) {
            together += sizes[n - 1];
            check.due("waste behind " + n, six.years(1, n, 0, 1), 99 - together);
        }
        for (int seed : new int[] {-1, 2, 12345, -98765, Integer.MIN_VALUE, Integer.MAX_VALUE}) {
            for (int n = 1; n <= 8; n++) {
                check.due("waste by " + seed + " behind " + n, six.years(seed, n, 0, 1), 99 - drawn(seed, n, 6));
            }
        }
    }

    /** All sizes of n draws together, size 1 for draw 0: by numbers that have room enough not to wrap. */
    private static int drawn(int seed, int n, int sorts) {
        java.math.BigInteger all = java.math.BigInteger.ONE.shiftLeft(32);
        java.math.BigInteger now = java.math.BigInteger.valueOf(seed).mod(all);
        int together = 0;
        for (int i = 0; i < n; i++) {
            now = now.multiply(java.math.BigInteger.valueOf(1103515245)).add(java.math.BigInteger.valueOf(12345)).mod(all);
            together += now.shiftRight(16).mod(java.math.BigInteger.valueOf(32768)).intValue() % sorts + 1;
        }
        return together;
    }

    private static void yearsThrown() {
        check.promise(35, "YEARS: BINS (what 0), WASTE (1), into those that are there (2). NoSuchElementException: another what.");
        check.noElement("what -1", AskEdgeTest::forYears, x -> x.years(1, 1, 0, -1));
        check.noElement("what 3", AskEdgeTest::forYears, x -> x.years(1, 1, 0, 3));
        check.promise(35, "IllegalArgumentException (behind that): n, no RULE 0 to 3.");
        check.noArgument("n -1", AskEdgeTest::forYears, x -> x.years(1, -1, 0, 0));
        check.noArgument("n 61", AskEdgeTest::forYears, x -> x.years(1, 61, 0, 0));
        check.noArgument("rule -1", AskEdgeTest::forYears, x -> x.years(1, 1, -1, 0));
        check.noArgument("rule 4", AskEdgeTest::forYears, x -> x.years(1, 1, 4, 0));
        check.noArgument("rule 4, nothing to come", AskEdgeTest::forYears, x -> x.years(1, 0, 4, 0));
        check.noArgument("n 61 without sorts", BinProver::new, x -> x.years(1, 61, 0, 0));
        check.noElement("what 3, n 61", AskEdgeTest::forYears, x -> x.years(1, 61, 0, 3));
        check.noElement("what -1, rule 4", AskEdgeTest::forYears, x -> x.years(1, 1, 4, -1));
        for (int far : FAR) {
            check.noElement("what " + far, AskEdgeTest::forYears, x -> x.years(1, 1, 0, far));
            check.noArgument("n " + far, AskEdgeTest::forYears, x -> x.years(1, far, 0, 0));
            check.noArgument("rule " + far, AskEdgeTest::forYears, x -> x.years(1, 1, far, 0));
        }
    }

    private static void status() {
        check.term(3, "STATUS: how many calls were refused: 0 TEXTS with a FAULT, 1 ACTS, 2 what is NOTED.");
        BinProver x = three();
        check.dueSame("none", Check.status(x), " status 0 0 0");
        Check.tell(x, "x");
        check.dueSame("a text", Check.status(x), " status 1 0 0");
        x.pack(9, 0);
        x.put(9, 0);
        x.take(9, 0);
        x.rest(9, 0);
        x.join(9, 0);
        check.dueSame("five acts", Check.status(x), " status 1 5 0");
        x.note(9, 0);
        check.dueSame("a note", Check.status(x), " status 1 5 1");
        x.undo();
        x.restore();
        check.noElement("what throws is not refused", () -> x, y -> y.rule(9));
        check.noArgument("what throws is not refused", () -> x, y -> y.goods(9));
        check.dueSame("nothing more", Check.status(x), " status 1 5 1");
        check.due("rest", x.rest(0, 0) + x.rest(1, 0) + x.rest(2, 0), 6);
        check.refused("load", 1, () -> x, BinProver::load);
    }

    private static BinProver busy() {
        BinProver x = check.told("capacity 10;sort 3 2;sort 6 2;sort 4 2;bin 0;");
        check.due("pack", x.pack(1, 1), 0);
        check.due("note", x.note(2, 2), 1);
        check.due("refused", x.put(9, 9), -1);
        check.due("refused", x.note(9, 9), -1);
        check.due("a fault", Check.tell(x, " x"), 1);
        return x;
    }

    private static void spoil(BinProver x) {
        check.due("load", x.load() > 0 ? 1 : 0, 1);
        check.due("rest", x.rest(0, 0) >= 0 ? 1 : 0, 1);
        check.due("take", x.take(0, 0) >= 0 ? 1 : 0, 1);
        check.due("refused", x.put(9, 9), -1);
        check.due("refused", x.note(9, 9), -1);
        check.due("a fault", Check.tell(x, "   x"), 1);
        x.forget();
        check.due("note", x.note(7, 24), 1);
        check.due("note", x.note(6, 24), 2);
        x.feed(0, 0, 0, 0, 0);
    }

    private static void image() {
        check.term(3, "AN IMAGE keeps REST, BINS, ACTS that are kept, what is NOTED, STATUS.");
        BinProver x = busy();
        String seen = Check.state(x).replaceAll(" fault.*", "");
        x.image();
        spoil(x);
        check.due("restore", x.restore() ? 1 : 0, 1);
        // the tape and the place of a fault are not kept
        check.due("the tape stays", x.count(9), 20);
        check.due("the fault's place stays", x.fault(), 3);
        check.due("goods with a fault", x.goods(1), 1);
        check.dueSame("status", Check.status(x), " status 2 1 1");
        check.dueSame("state", Check.state(x).replaceAll(" fault.*", ""), seen);
        check.due("what is noted: 2 by rule 2", x.other(2), 1);
        check.due("the act", x.undo(), 0);
        check.due("is undone", x.bin(0, -1), 3);
        check.due("no more acts", x.undo(), -1);
        // 5 7 2 2 are 3 by rule 0, 2 by rule 1
        for (int rule = 0; rule < 2; rule++) {
            BinProver notes = check.told("capacity 10;sort 5 1;sort 7 1;sort 2 2;");
            check.due("note", notes.note(rule, 3 - rule), 1);
            notes.image();
            notes.forget();
            check.due("another rule", notes.note(1 - rule, 3 - rule), 1);
            check.due("is not so", notes.other(2), 0);
            check.due("restore", notes.restore() ? 1 : 0, 1);
            check.due("the rule that was noted", notes.other(2), 1);
            notes.forget();
            check.due("another number", notes.note(rule, 24), 1);
            check.due("restore", notes.restore() ? 1 : 0, 1);
            check.due("the number that was noted", notes.other(2), 1);
        }
        check.promise(36, "AN IMAGE is kept, in place of another one.");
        BinProver two = three();
        two.image();
        check.due("pack", two.pack(0, 1), 0);
        two.image();
        check.due("pack", two.pack(0, 1), 0);
        check.due("restore", two.restore() ? 1 : 0, 1);
        check.due("the second one", two.bin(0, 0), 1);
        check.due("restore", two.restore() ? 1 : 0, 1);
        check.due("it stays", two.bin(0, 0), 1);
        BinProver none = new BinProver();
        none.image();
        none.put(0, 0);
        check.due("of a new object", none.restore() ? 1 : 0, 1);
        check.due("nothing was refused", none.count(11), 0);
    }

    private static void restore() {
        check.promise(37, "It is as the IMAGE again: true.");
        BinProver x = busy();
        x.image();
        String seen = Check.state(x) + Check.status(x);
        for (int i = 0; i < 3; i++) {
            check.due("undo", x.undo(), 0);
            check.due("restore", x.restore() ? 1 : 0, 1);
            check.dueSame("each time", Check.state(x) + Check.status(x), seen);
        }
        // an act behind restore() doesn't change the image
        check.due("put", x.put(0, 0) >= 0 ? 1 : 0, 0);
        check.due("rest", x.rest(2, 0), 2);
        check.due("note", x.note(0, 0), 2);
        check.due("restore", x.restore() ? 1 : 0, 1);
        check.dueSame("the image is as it was", Check.state(x) + Check.status(x), seen);
        manyActs();
        check.promise(37, "False: there is none.");
        BinProver none = busy();
        String before = Check.state(none) + Check.status(none);
        check.due("none", none.restore() ? 1 : 0, 0);
        check.dueSame("nothing changes", Check.state(none) + Check.status(none), before);
        check.due("of a new object", new BinProver().restore() ? 1 : 0, 0);
        BinProver anew = busy();
        anew.image();
        check.due("goods", Check.tell(anew, THREE), 0);
        check.due("it is gone by goods", anew.restore() ? 1 : 0, 0);
    }

    private static void manyActs() {
        BinProver x = check.told("sort 1 0;");
        for (int i = 1; i <= 41; i++) {
            x.rest(0, i % 11);
        }
        x.image();
        for (int i = 0; i < 45; i++) {
            x.rest(0, 11);
        }
        check.due("restore", x.restore() ? 1 : 0, 1);
        for (int i = 40; i >= 1; i--) {
            check.due("undo", x.undo(), i - 1);
            check.due("rest", x.sort(0, 1), i % 11);
        }
        check.due("no more", x.undo(), -1);
    }
}
