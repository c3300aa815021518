import java.io.IOException;

/** The edges of what is counted, packed by rules and proved: term 2 without ACTS, promises 5 to 19. */
public final class ProofEdgeTest {
    private static final int[] FAR = {Integer.MIN_VALUE, -100, -2, 100, 1000, Integer.MAX_VALUE};
    private static final String THREE = "capacity 10;sort 3 2;sort 6 2;sort 4 2;";
    private static Check check;

    public static void main(String[] args) throws IOException {
        check = new Check();
        count();
        critical();
        sort();
        bin();
        rulesThatPack();
        rulesOfLikeOnes();
        rule();
        into();
        guaranteed();
        areaAndNone();
        splits();
        steps();
        bound();
        patterns();
        maximal();
        pattern();
        treeClosed();
        treeCut();
        tree();
        best();
        net();
        squeezed();
        high();
        check.end(5, 19);
    }

    private static BinProver three() {
        return check.told(THREE);
    }

    /** 24 things of 6 sorts, none of which fits besides another one; 12 bins. */
    private static BinProver full() {
        return check.told("capacity 9;" + "sort 9 4;sort 8 4;sort 7 4;" + "sort 6 4;sort 5 4;sort 9 4;" + "bin 0;".repeat(12));
    }

    private static void count() {
        check.promise(5, "0 CAPACITY, 1 SORTS, 2 REST of all, 3 BINS that are there, 4 WASTE");
        check.dueAll("full", full(), BinProver::count, 9, 6, 24, 12, 0);
        check.dueAll("empty", check.told(""), BinProver::count, 30, 0, 0, 0, 0);
        check.dueAll("wide", check.told("capacity 99;sort 1 12;" + "bin 0;".repeat(12)), BinProver::count, 99, 1, 12, 12, 1176);
        check.promise(5, "6 APART");
        check.due("of none", check.told("sort 5 0;").count(6), 0);
        check.due("24 bins", full().count(6), 24);
        // two of 5 fill a bin, three of 3 nearly: 1 and 1; with one more of each 2 and 2
        check.due("filled", check.told("capacity 10;sort 5 2;sort 3 3;").count(6), 2);
        check.due("one more", check.told("capacity 10;sort 5 3;sort 3 4;").count(6), 4);
        check.promise(5, "7 ACTS that are kept, 8 NOTED, 9 bytes of the tape, 10 to 12 STATUS 0 to 2.");
        BinProver x = check.told("sort 1 0;");
        for (int i = 0; i < 41; i++) {
            x.rest(0, 1);
            x.note(0, 0);
        }
        x.feed(0, 0, 0, 0, 0);
        x.put(7, 7);
        x.put(7, 7);
        check.due("acts", x.count(7), 40);
        check.due("noted", x.count(8), 8);
        check.due("the tape", x.count(9), 20);
        check.due("texts", x.count(10), 0);
        check.due("acts", x.count(11), 2);
        check.due("notes", x.count(12), 33);
        check.due("a fault", x.goods(20), 1);
        check.due("texts", x.count(10), 1);
        check.promise(5, "NoSuchElementException: another what.");
        for (int what : new int[] {-1, 13}) {
            check.noElement("count " + what, ProofEdgeTest::three, y -> y.count(what));
        }
        for (int what : FAR) {
            check.noElement("count " + what, ProofEdgeTest::three, y -> y.count(what));
        }
    }

    private static void critical() {
        check.promise(5, "5 CRITICAL (bits)");
        check.due("none of none", new BinProver().count(5), 0);
        check.due("one that isn't there", check.told("sort 5 0;").count(5), 0);
        check.due("the only one", check.told("sort 5 1;").count(5), 1);
        check.due("all six", check.told("capacity 9;" + "sort 9 1;".repeat(6)).count(5), 63);
        check.due("the last one of six", check.told("capacity 9;" + "sort 9 0;".repeat(5) + "sort 9 1;").count(5), 32);
        // 6, 4 and 1 need two bins, any two of them one
        check.due("each one is too much", check.told("capacity 10;sort 6 1;sort 4 1;sort 1 1;").count(5), 7);
        check.due("either of two too much saves none", check.told("capacity 10;sort 10 1;sort 1 2;").count(5), 1);
    }

    private static void sort() {
        check.promise(6, "Of a SORT: 0 SIZE, 1 REST, 2 the how manyth it is by the ORDER (0 on), 3 how many are in BINS.");
        BinProver x = check.told("capacity 99;sort 1 0;sort 99 12;sort 1 12;bin" + " 0".repeat(99) + ";bin 0 2;bin 1;");
        check.dueAll("sort 0", x, (y, i) -> y.sort(0, i), 1, 0, 1, 100);
        check.dueAll("sort 1", x, (y, i) -> y.sort(1, i), 99, 12, 0, 1);
        check.dueAll("sort 2", x, (y, i) -> y.sort(2, i), 1, 12, 2, 1);
        check.promise(6, "NoSuchElementException: no such SORT (as everywhere), another what.");
        for (int sort : new int[] {-1, 3, 6}) {
            check.noElement("sort " + sort, ProofEdgeTest::three, y -> y.sort(sort, 0));
        }
        check.noElement("sort 6 of six", ProofEdgeTest::full, y -> y.sort(6, 0));
        check.due("sort 5 of six", full().sort(5, 0), 9);
        for (int what : new int[] {-1, 4}) {
            check.noElement("what " + what, ProofEdgeTest::three, y -> y.sort(0, what));
        }
        for (int far : FAR) {
            check.noElement("sort " + far, ProofEdgeTest::three, y -> y.sort(far, 0));
            check.noElement("what " + far, ProofEdgeTest::three, y -> y.sort(0, far));
        }
    }

    private static BinProver oneBin() {
        return check.told("capacity 10;sort 4 0;sort 3 0;bin 1 0 1;");
    }

    private static void bin() {
        check.promise(7, "How many of a SORT are in a BIN; of SORT NONE all SIZES in it together.");
        check.due("none of it", full().bin(11, 1), 0);
        check.due("one of it", full().bin(11, 0), 1);
        check.due("full", oneBin().bin(0, -1), 10);
        check.due("two of it", oneBin().bin(0, 1), 2);
        check.promise(7, "NoSuchElementException: no such BIN (as everywhere), SORT.");
        check.noElement("bin -1", ProofEdgeTest::oneBin, y -> y.bin(-1, 0));
        check.noElement("bin 1", ProofEdgeTest::oneBin, y -> y.bin(1, 0));
        check.noElement("bin 1, all of it", ProofEdgeTest::oneBin, y -> y.bin(1, -1));
        check.noElement("bin 0 of none", ProofEdgeTest::three, y -> y.bin(0, 0));
        check.noElement("bin 12 of twelve", ProofEdgeTest::full, y -> y.bin(12, 0));
        check.noElement("sort 2", ProofEdgeTest::oneBin, y -> y.bin(0, 2));
        check.noElement("sort 6 of six", ProofEdgeTest::full, y -> y.bin(0, 6));
        for (int far : FAR) {
            check.noElement("bin " + far, ProofEdgeTest::oneBin, y -> y.bin(far, 0));
            check.noElement("sort " + far, ProofEdgeTest::oneBin, y -> y.bin(0, far));
        }
    }

    private static void dueInto(String text, int rule, int... want) {
        BinProver x = check.told(text);
        check.dueAll("into by " + rule + " of " + text, x, (y, i) -> y.into(rule, i), want);
    }

    private static void rulesThatPack() {
        check.term(2, "packs things one after the other into BINS, none being there at first");
        BinProver there = check.told("capacity 10;sort 6 1;bin 0;");
        check.due("one bin", there.rule(1), 1);
        check.due("the first", there.into(1, 0), 0);
        check.term(2, "0 NEXT: the last one, if it fits");
        dueInto("capacity 10;sort 6 1;sort 4 1;", 0, 0, 0);
        dueInto("capacity 10;sort 6 1;sort 5 1;", 0, 0, 1);
        dueInto("capacity 10;sort 2 1;sort 9 1;sort 1 1;sort 3 1;", 0, 0, 1, 1, 2);
        check.term(2, "1 FIRST: the first one it fits into");
        dueInto("capacity 10;sort 5 1;sort 6 1;sort 4 3;", 1, 0, 1, 0, 1, 2);
        dueInto("capacity 10;sort 9 1;sort 2 1;sort 1 2;", 1, 0, 1, 0, 1);
        check.term(2, "2 BEST: of those it fits into the fullest");
        dueInto("capacity 10;sort 5 1;sort 6 1;sort 4 1;sort 5 1;", 2, 0, 1, 1, 0);
        dueInto("capacity 10;sort 5 1;sort 7 1;sort 4 1;", 2, 0, 1, 0);
        check.term(2, "3 WORST: of those the emptiest");
        dueInto("capacity 10;sort 6 1;sort 5 1;sort 4 2;", 3, 0, 1, 1, 0);
        dueInto("capacity 10;sort 9 1;sort 8 1;sort 3 1;", 3, 0, 1, 2);
        check.term(2, "else into a new one");
        for (int rule = 0; rule < 8; rule++) {
            dueInto("capacity 10;sort 6 1;sort 5 1;", rule, 0, 1);
        }
    }

    private static void rulesOfLikeOnes() {
        check.term(2, "(of like ones the first)");
        dueInto("capacity 10;sort 6 3;sort 4 2;", 2, 0, 1, 2, 0, 1);
        dueInto("capacity 10;sort 6 3;sort 2 4;", 3, 0, 1, 2, 0, 1, 2, 0);
        check.term(2, "Things come SORT by SORT, by numbers; by 4 to 7 (as 0 to 3) by the ORDER.");
        String text = "capacity 10;sort 2 1;sort 9 1;sort 7 1;sort 1 1;";
        dueInto(text, 0, 0, 1, 2, 2);
        dueInto(text, 1, 0, 1, 0, 0);
        // 2 and 7 are as full as 9 alone
        dueInto(text, 2, 0, 1, 0, 0);
        dueInto(text, 3, 0, 1, 0, 0);
        dueInto(text, 4, 0, 1, 1, 1);
        dueInto(text, 5, 0, 1, 1, 0);
        dueInto(text, 6, 0, 1, 1, 0);
        dueInto(text, 7, 0, 1, 1, 0);
        dueInto("capacity 10;sort 1 1;sort 9 1;sort 8 1;", 7, 0, 1, 1);
    }

    private static void rule() {
        check.promise(8, "How many BINS a RULE needs.");
        for (int rule = 0; rule < 8; rule++) {
            check.due("none by " + rule, check.told("sort 5 0;bin 0;").rule(rule), 0);
            check.due("24 by " + rule, full().rule(rule), 24);
            check.due("24 in one by " + rule, check.told("capacity 24;sort 1 12;sort 1 12;").rule(rule), 1);
            check.due("24 in two by " + rule, check.told("capacity 23;sort 1 12;sort 1 12;").rule(rule), 2);
        }
        check.promise(8, "NoSuchElementException: no such RULE.");
        check.noElement("rule -1", ProofEdgeTest::three, x -> x.rule(-1));
        check.noElement("rule 8", ProofEdgeTest::three, x -> x.rule(8));
        check.noElement("rule 8 of none", BinProver::new, x -> x.rule(8));
        for (int far : FAR) {
            check.noElement("rule " + far, ProofEdgeTest::three, x -> x.rule(far));
        }
    }

    private static void into() {
        check.promise(9, "In which BIN (0 on) the i-th thing (0 on, as they come) is by a RULE.");
        for (int rule = 0; rule < 8; rule++) {
            int by = rule;
            check.due("the first of 24 by " + rule, full().into(rule, 0), 0);
            check.due("the last of 24 by " + rule, full().into(rule, 23), 23);
            check.noElement("one more by " + rule, ProofEdgeTest::full, x -> x.into(by, 24));
        }
        check.promise(9, "NoSuchElementException: no such RULE, there is none.");
        check.noElement("rule -1", ProofEdgeTest::three, x -> x.into(-1, 0));
        check.noElement("rule 8", ProofEdgeTest::three, x -> x.into(8, 0));
        check.noElement("thing -1", ProofEdgeTest::three, x -> x.into(1, -1));
        check.noElement("thing 6 of six", ProofEdgeTest::three, x -> x.into(1, 6));
        check.noElement("thing 0 of none", BinProver::new, x -> x.into(1, 0));
        check.noElement("thing 0 of no rest", ProofEdgeTest::oneBin, x -> x.into(1, 0));
        // what an earlier question packed is not there any more
        BinProver less = full();
        check.due("24 things", less.into(1, 23), 23);
        check.due("one less", less.rest(0, 3), 4);
        check.noElement("the 24th thing", () -> less, x -> x.into(1, 23));
        for (int far : FAR) {
            check.noElement("rule " + far, ProofEdgeTest::three, x -> x.into(far, 0));
            check.noElement("thing " + far, ProofEdgeTest::three, x -> x.into(1, far));
        }
    }

    private static void guaranteed() {
        check.term(3, "by RULE 1: ten times its BINS are 17 times FEWEST at most");
        // 5, 11 and 19 three times fill three bins; by rule 1 there are 5: 50 and 51
        BinProver five = check.told("capacity 35;sort 5 3;sort 11 3;sort 19 3;");
        check.due("bins", five.rule(1), 5);
        check.due("fewest", five.tree(0), 3);
        check.due("it is so", five.guaranteed(0), 1);
        check.term(3, "by RULE 5: nine times its BINS are 11 times FEWEST and 6 at most");
        // 31, 16, 13 four times and 17, 17, 13, 13 twice fill six bins; by rule 5 there are 8: 72 and 72
        BinProver eight = check.told("capacity 60;sort 31 4;sort 17 4;sort 16 4;sort 13 8;");
        check.due("bins", eight.rule(5), 8);
        check.due("fewest", eight.tree(0), 6);
        check.due("it is so", eight.guaranteed(1), 1);
        check.promise(10, "GUARANTEED by RULE 1 (what 0), 5 (1): whether it is so (1).");
        check.due("of none, by 1", new BinProver().guaranteed(0), 1);
        check.due("of none, by 5", new BinProver().guaranteed(1), 1);
        check.due("of 24, by 1", full().guaranteed(0), 1);
        check.due("of 24, by 5", full().guaranteed(1), 1);
        check.promise(10, "NoSuchElementException: another what.");
        check.noElement("what -1", ProofEdgeTest::three, x -> x.guaranteed(-1));
        check.noElement("what 2", ProofEdgeTest::three, x -> x.guaranteed(2));
        for (int far : FAR) {
            check.noElement("what " + far, ProofEdgeTest::three, x -> x.guaranteed(far));
        }
    }

    private static void areaAndNone() {
        check.term(2, "BOUNDS of some goods (0 for none)");
        for (BinProver none : new BinProver[] {new BinProver(), check.told("sort 5 0;bin 0;")}) {
            check.dueAll("bound", none, BinProver::bound, 0, 0, 0, 0, 1, 0);
            check.dueAll("split", none, BinProver::split, new int[16]);
            check.dueAll("step", none, (x, i) -> x.step(i + 1), new int[20]);
        }
        check.term(2, "AREA: all SIZES together by CAPACITY, rounded up.");
        check.due("19 by 10", check.told("capacity 10;sort 4 4;sort 3 1;").bound(0), 2);
        check.due("20 by 10", check.told("capacity 10;sort 5 4;").bound(0), 2);
        check.due("21 by 10", check.told("capacity 10;sort 5 4;sort 1 1;").bound(0), 3);
        check.due("1 by 99", check.told("capacity 99;sort 1 1;").bound(0), 1);
        check.due("24 by 1", check.told("capacity 1;sort 1 12;sort 1 12;").bound(0), 24);
        check.due("24 times 99 by 99", check.told("capacity 99;sort 99 12;sort 99 12;").bound(0), 24);
    }

    private static void splits() {
        check.term(2, "SPLIT by A (0 to half of CAPACITY, cut)");
        int[] capacities = {1, 2, 3, 10, 11, 98, 99};
        for (int capacity : capacities) {
            Check.Made made = () -> check.told("capacity " + capacity + ";sort 1 1;");
            check.due("split 0 of " + capacity, made.make().split(0), 1);
            check.due("half of " + capacity, made.make().split(capacity / 2), capacity < 4 ? 1 : 0);
            check.noArgument("above half of " + capacity, made, x -> x.split(capacity / 2 + 1));
        }
        check.term(2, "ONE is how many are greater than CAPACITY less A");
        check.due("7 is not, by 3", check.told("capacity 10;sort 7 1;sort 3 1;").split(3), 1);
        check.due("8 is, by 3", check.told("capacity 10;sort 8 2;sort 4 1;").split(3), 3);
        check.due("8 is not, by 2", check.told("capacity 10;sort 8 2;sort 4 1;").split(2), 2);
        check.due("10 is, by 1", check.told("capacity 10;sort 10 2;").split(1), 2);
        check.due("10 is not, by 0", check.told("capacity 10;sort 10 2;").split(0), 2);
        check.term(2, "TWO how many others are greater than half of CAPACITY (twice the SIZE above it)");
        check.due("5 of 10 is not", check.told("capacity 10;sort 5 3;").split(0), 2);
        check.due("6 of 10 is", check.told("capacity 10;sort 6 3;").split(0), 3);
        check.due("5 of 9 is", check.told("capacity 9;sort 5 3;").split(0), 3);
        check.due("4 of 9 is not", check.told("capacity 9;sort 4 3;").split(0), 2);
        check.term(2, "THREE those that are neither, and A or more");
        check.due("3 by 3", check.told("capacity 10;sort 3 1;").split(3), 1);
        check.due("3 by 4", check.told("capacity 10;sort 3 1;").split(4), 0);
        check.due("5 by 5", check.told("capacity 10;sort 5 3;sort 4 3;").split(5), 2);
        check.term(2, "if it is above 0, SIZES of THREE less what TWO leave free (CAPACITY each, less their SIZES)");
        check.due("below 0", check.told("capacity 10;sort 6 2;sort 3 1;").split(0), 2);
        check.due("far below 0", check.told("capacity 10;sort 6 12;").split(0), 12);
        check.due("just 0", check.told("capacity 10;sort 6 2;sort 4 2;").split(0), 2);
        check.due("two sorts of ONE", check.told("capacity 10;sort 8 2;sort 9 3;").split(3), 5);
        check.due("two sorts of TWO", check.told("capacity 10;sort 6 2;sort 7 3;").split(0), 5);
        check.due("ONE ahead of TWO", check.told("capacity 10;sort 9 3;sort 6 2;").split(3), 5);
        check.due("TWO ahead of ONE", check.told("capacity 10;sort 6 2;sort 9 3;").split(3), 5);
        check.due("two sorts of THREE", check.told("capacity 10;sort 5 1;sort 4 4;").split(0), 3);
        check.due("1", check.told("capacity 10;sort 6 2;sort 4 1;sort 5 1;").split(0), 3);
        check.due("10", check.told("capacity 10;sort 6 1;sort 5 2;sort 4 1;").split(0), 2);
        check.due("11", check.told("capacity 10;sort 6 1;sort 5 3;").split(0), 3);
        check.term(2, "by CAPACITY, rounded up");
        check.due("20 by 10", check.told("capacity 10;sort 5 4;").split(0), 2);
        check.due("21 by 10", check.told("capacity 10;sort 5 1;sort 4 4;").split(0), 3);
        check.due("30 by 10", check.told("capacity 10;sort 5 6;").split(5), 3);
        check.due("35 by 10", check.told("capacity 10;sort 5 7;").split(5), 4);
        check.promise(12, "SPLIT by A. IllegalArgumentException: A.");
        check.noArgument("-1", ProofEdgeTest::three, x -> x.split(-1));
        check.noArgument("6", ProofEdgeTest::three, x -> x.split(6));
        check.due("5", three().split(5), 2);
        check.due("15 of a new object", new BinProver().split(15), 0);
        check.noArgument("16 of a new object", BinProver::new, x -> x.split(16));
        for (int far : FAR) {
            check.noArgument("split " + far, ProofEdgeTest::three, x -> x.split(far));
        }
    }

    private static void steps() {
        check.term(2, "a thing counts K times its SIZE, if K + 1 times its SIZE is a multiple of CAPACITY");
        // 2 times 5 is 10: each counts 5 of 10, not 10
        check.due("three halves by 1", check.told("capacity 10;sort 5 3;").step(1), 2);
        // 3 times 5 is 15: each counts 10 of 20
        check.due("three halves by 2", check.told("capacity 10;sort 5 3;").step(2), 2);
        check.due("whole ones by 20", check.told("capacity 10;sort 10 3;").step(20), 3);
        check.due("thirds by 2", check.told("capacity 9;sort 3 4;").step(2), 2);
        check.term(2, "else CAPACITY times (K + 1 times its SIZE by CAPACITY, cut)");
        check.due("above a half by 1", check.told("capacity 10;sort 6 3;").step(1), 3);
        check.due("below a half by 1", check.told("capacity 10;sort 4 12;").step(1), 0);
        // 3 times 4 is 12: each counts 11 of 22
        check.due("above a third by 2", check.told("capacity 11;sort 4 5;").step(2), 3);
        check.due("just so many", check.told("capacity 11;sort 4 4;").step(2), 2);
        // 21 times 99 less 21: 98 of 99 counts 20 times 99, as 99 does
        check.due("the greatest by 20", check.told("capacity 99;sort 98 12;sort 99 12;").step(20), 24);
        check.due("the least by 20", check.told("capacity 99;sort 1 12;").step(20), 0);
        check.term(2, "all together by K times CAPACITY, rounded up");
        // each counts 1 by 1, then 2 by 3
        check.due("just 12", check.told("capacity 10;sort 6 12;").step(1), 12);
        check.due("24 by 3", check.told("capacity 10;sort 6 12;").step(3), 8);
        check.due("22 by 3", check.told("capacity 10;sort 6 11;").step(3), 8);
        check.due("20 by 3", check.told("capacity 10;sort 6 10;").step(3), 7);
        check.due("18 by 3", check.told("capacity 10;sort 6 9;").step(3), 6);
        check.term(2, "STEP by K (1 to 20)");
        check.due("1", three().step(1), 2);
        // 21 times 6, 4, 3 by 10 are 12, 8, 6: twice 120, 80, 60 by 200
        check.due("20", three().step(20), 3);
        check.promise(13, "STEP by K. IllegalArgumentException: K.");
        check.noArgument("0", ProofEdgeTest::three, x -> x.step(0));
        check.noArgument("21", ProofEdgeTest::three, x -> x.step(21));
        check.noArgument("-1", ProofEdgeTest::three, x -> x.step(-1));
        check.noArgument("0 of none", BinProver::new, x -> x.step(0));
        for (int far : FAR) {
            check.noArgument("step " + far, ProofEdgeTest::three, x -> x.step(far));
        }
    }

    private static void bound() {
        check.promise(11, "1 the greatest SPLIT, 2 the least A by which");
        BinProver eights = check.told("capacity 10;sort 4 1;sort 8 2;");
        check.dueAll("split", eights, BinProver::split, 2, 2, 2, 3, 3, 2);
        check.due("the greatest", eights.bound(1), 3);
        check.due("the least A", eights.bound(2), 3);
        // 6 leaves 4, so a 5 is too much by each A that counts it
        BinProver last = check.told("capacity 10;sort 6 1;sort 5 1;");
        check.dueAll("split", last, BinProver::split, 2, 2, 2, 2, 2, 2);
        check.due("the first of all", last.bound(2), 0);
        // only by 5 the 7 is ONE, and leaves nothing: 15 by 11 in place of 15 less 8
        BinProver half = check.told("capacity 11;sort 7 2;sort 5 3;");
        check.dueAll("split", half, BinProver::split, 3, 3, 3, 3, 3, 4);
        check.due("the greatest", half.bound(1), 4);
        check.due("the least A is half", half.bound(2), 5);
        check.promise(11, "3 the greatest STEP, 4 the least K by which");
        check.dueAll("step", three(), (x, i) -> x.step(i + 1), 2, 2, 3);
        check.due("the greatest", three().bound(3), 3);
        check.due("the least K", three().bound(4), 3);
        BinProver sixes = check.told("capacity 10;sort 6 3;");
        check.dueAll("step", sixes, (x, i) -> x.step(i + 1), 3, 2, 2);
        check.due("the greatest", sixes.bound(3), 3);
        check.due("the least K is 1", sixes.bound(4), 1);
        // 20 times 2 is below 41, 21 times above: only by 20 each counts anything, 41 of 820
        BinProver many = check.told("capacity 41;sort 2 12;sort 2 9;");
        check.dueAll("step", many, (x, i) -> x.step(i + 1), 0, 0, 0, 0, 0, 0, 0, 0, 0, 0, 0, 0, 0, 0, 0, 0, 0, 0, 0, 2);
        check.due("the greatest", many.bound(3), 2);
        check.due("the least K is 20", many.bound(4), 20);
        check.promise(11, "5 BOUND");
        // area 20 by 11, split the same; step 3 by 2
        BinProver step = check.told("capacity 11;sort 4 5;");
        check.dueAll("by a step alone", step, BinProver::bound, 2, 2, 0, 3, 2, 3);
        // by 8 the 12s leave nothing to the 8s: 3, and 24 by 19
        BinProver split = check.told("capacity 19;sort 12 3;sort 2 2;sort 8 3;");
        check.dueAll("by a split alone", split, BinProver::bound, 4, 5, 8, 4, 4, 5);
        check.promise(11, "NoSuchElementException: another what.");
        check.noElement("-1", ProofEdgeTest::three, x -> x.bound(-1));
        check.noElement("6", ProofEdgeTest::three, x -> x.bound(6));
        for (int far : FAR) {
            check.noElement("bound " + far, ProofEdgeTest::three, x -> x.bound(far));
        }
    }

    private static void patterns() {
        check.term(2, "A PATTERN of some goods: how many of each SORT, no more than there are, SIZES together CAPACITY at most");
        check.due("three there are", check.told("capacity 10;sort 2 3;").patterns(0), 4);
        check.due("two fit just", check.told("capacity 10;sort 5 3;").patterns(0), 3);
        check.due("one fits", check.told("capacity 9;sort 5 3;").patterns(0), 2);
        check.due("two sorts", check.told("capacity 10;sort 6 1;sort 4 1;").patterns(0), 4);
        check.due("two sorts that don't fit together", check.told("capacity 9;sort 6 1;sort 4 1;").patterns(0), 3);
        check.due("all of six sorts", check.told("capacity 24;" + "sort 1 4;".repeat(6)).patterns(0), 15625);
        check.term(2, "(none at all is one, too)");
        check.due("of a new object", new BinProver().patterns(0), 1);
        check.due("of no rest", check.told("sort 5 0;").patterns(0), 1);
        check.promise(14, "PATTERNS: how many (what 0), that are MAXIMAL (1), that are MAXIMAL and full (2).");
        check.dueAll("none", new BinProver(), BinProver::patterns, 1, 1, 0);
        check.dueAll("full", check.told("capacity 10;sort 5 3;"), BinProver::patterns, 3, 1, 1);
        check.dueAll("not full", check.told("capacity 10;sort 3 3;"), BinProver::patterns, 4, 1, 0);
        check.dueAll("all that there is, not full", check.told("capacity 10;sort 4 2;"), BinProver::patterns, 3, 1, 0);
        check.dueAll("some of them full", three(), BinProver::patterns, 10, 4, 2);
        check.promise(14, "NoSuchElementException: another what.");
        check.noElement("-1", ProofEdgeTest::three, x -> x.patterns(-1));
        check.noElement("3", ProofEdgeTest::three, x -> x.patterns(3));
        check.noElement("3 of none", BinProver::new, x -> x.patterns(3));
        for (int far : FAR) {
            check.noElement("patterns " + far, ProofEdgeTest::three, x -> x.patterns(far));
        }
    }

    private static void maximal() {
        check.term(2, "MAXIMAL: nothing more of these goods fits into it.");
        check.due("6, or 5", check.told("capacity 10;sort 6 1;sort 5 1;").patterns(1), 2);
        check.due("6 and 4, or 5 and 4", check.told("capacity 10;sort 6 1;sort 5 1;sort 4 1;").patterns(1), 2);
        check.due("what isn't there fits not", check.told("capacity 10;sort 6 1;sort 1 0;").patterns(1), 1);
        check.due("what fits just is missing", check.told("capacity 10;sort 4 1;sort 6 1;").patterns(1), 1);
        check.due("all four of six sorts", check.told("capacity 24;" + "sort 1 4;".repeat(6)).patterns(1), 1);
        check.term(2, "Of two the FIRST has more of the first SORT by the ORDER of which they haven't as many.");
        BinProver like = check.told("capacity 10;sort 5 2;sort 5 2;");
        check.due("three", like.patterns(1), 3);
        check.dueAll("of the less number", like, (x, i) -> x.pattern(i, 0), 2, 1, 0);
        check.dueAll("of the greater number", like, (x, i) -> x.pattern(i, 1), 0, 1, 2);
        BinProver x = check.told("capacity 12;sort 3 2;sort 4 2;sort 5 2;");
        // 5 5; 5 4 3; 5 3 3; 4 4 3; 4 3 3
        check.due("all", x.patterns(1), 5);
        check.dueAll("5", x, (y, i) -> y.pattern(i, 2), 2, 1, 1, 0, 0);
        check.dueAll("4", x, (y, i) -> y.pattern(i, 1), 0, 1, 0, 2, 1);
        check.dueAll("3", x, (y, i) -> y.pattern(i, 0), 0, 1, 2, 1, 2);
        check.dueAll("together", x, (y, i) -> y.pattern(i, -1), 10, 12, 11, 11, 10);
    }

    private static void pattern() {
        check.promise(15, "Of the i-th MAXIMAL PATTERN (0 on, the FIRST first): how many of a SORT; of SORT NONE SIZES together.");
        check.due("of none", new BinProver().pattern(0, -1), 0);
        check.due("of what isn't there", check.told("sort 5 0;").pattern(0, 0), 0);
        check.due("24 in one", check.told("capacity 24;sort 1 12;sort 1 12;").pattern(0, -1), 24);
        check.promise(15, "NoSuchElementException: there is none, no such SORT.");
        check.due("the last", three().pattern(3, 0), 2);
        check.noElement("one more", ProofEdgeTest::three, x -> x.pattern(4, 0));
        check.noElement("-1", ProofEdgeTest::three, x -> x.pattern(-1, 0));
        check.noElement("-1, all of it", ProofEdgeTest::three, x -> x.pattern(-1, -1));
        check.noElement("1 of none", BinProver::new, x -> x.pattern(1, -1));
        check.noElement("sort 0 of none", BinProver::new, x -> x.pattern(0, 0));
        check.noElement("sort 3", ProofEdgeTest::three, x -> x.pattern(0, 3));
        check.noElement("sort 6 of six", ProofEdgeTest::full, x -> x.pattern(0, 6));
        for (int far : FAR) {
            check.noElement("pattern " + far, ProofEdgeTest::three, x -> x.pattern(far, 0));
            check.noElement("sort " + far, ProofEdgeTest::three, x -> x.pattern(0, far));
        }
    }

    private static void treeClosed() {
        check.term(2, "Is nothing left: if it has fewer BINS than BEST, it is BEST (FOUND).");
        check.dueAll("none", new BinProver(), BinProver::tree, 0, 1, 1, 0, 0, 0);
        check.dueAll("no rest", check.told("sort 5 0;bin 0;"), BinProver::tree, 0, 1, 1, 0, 0, 0);
        // 6 6; 6 4 3 twice: 6 6 leaves 14, which closes it; 6 4 3 leaves as much as it is; then 6 3 3 closes
        BinProver two = check.told("capacity 13;sort 6 2;sort 4 2;sort 3 2;");
        check.dueAll("found once", two, BinProver::tree, 2, 1, 5, 2, 1, 2);
        check.term(2, "if its BINS and BOUND of what is left together are as many as BEST has, or more: CLOSED");
        check.dueAll("as many at once", three(), BinProver::tree, 3, 1, 1, 1, 0, 0);
        check.dueAll("one thing", check.told("sort 5 1;"), BinProver::tree, 1, 1, 1, 1, 0, 0);
        check.dueAll("24 bins", full(), BinProver::tree, 24, 1, 1, 1, 0, 0);
        // by 8 the 12s leave nothing to the 8s: 5 at once
        check.dueAll("by a split alone", check.told("capacity 19;sort 12 3;sort 2 2;sort 8 3;"), BinProver::tree,
                5, 1, 1, 1, 0, 0);
        // 4 by 5, which is half of 11, cut; 3 by any other A
        check.dueAll("by the last split alone", check.told("capacity 11;sort 7 2;sort 5 3;"), BinProver::tree,
                4, 1, 1, 1, 0, 0);
        // by 20 a 4 counts 2 times 41 and a 2 once, of 20 times 41: 41 by 20; the area is just 2
        BinProver last = check.told("capacity 41;sort 4 12;sort 4 5;sort 2 7;");
        check.dueAll("bounds", last, BinProver::bound, 2, 2, 0, 3, 20, 3);
        check.dueAll("by the last step alone", last, BinProver::tree, 3, 1, 1, 1, 0, 0);
        check.dueAll("by a step alone", check.told("capacity 11;sort 4 5;"), BinProver::tree, 3, 1, 1, 1, 0, 0);
        check.term(2, "BEST is at first the packing by RULE 5.");
        // 12 1; 10 9 by rule 5, but 12; 10 9 1 by rules 4 and 6
        BinProver first = check.told("capacity 20;sort 12 1;sort 10 1;sort 9 1;sort 1 1;");
        check.dueAll("closed at once", first, BinProver::tree, 2, 1, 1, 1, 0, 0);
        check.dueAll("the first bin", first, (y, i) -> y.best(0, i), 1, 0, 0, 1);
        check.dueAll("the second bin", first, (y, i) -> y.best(1, i), 0, 1, 1, 0);
        check.term(2, "with each MAXIMAL PATTERN of what is left that has any of the first SORT by the ORDER of which any is left");
        BinProver like = check.told("capacity 13;sort 3 0;sort 3 2;sort 6 1;sort 4 2;sort 6 1;");
        check.dueAll("like ones, and one that isn't there", like, BinProver::tree, 2, 1, 5, 2, 1, 2);
    }

    private static void treeCut() {
        check.term(2, "is the 61st NODE to be met, all ends (CUT)");
        // not by hand: the program's own answers, which two models give as well
        check.dueAll("the 60th is the last", check.told("capacity 31;sort 12 4;sort 10 4;sort 13 6;"), BinProver::tree,
                7, 1, 60, 39, 0, 4);
        check.dueAll("the 61st would be", check.told("capacity 10;sort 3 4;sort 3 5;sort 4 8;sort 3 7;"), BinProver::tree,
                8, 0, 60, 42, 2, 9);
    }

    private static void tree() {
        check.promise(16, "5 the most BINS chosen at a NODE that was met.");
        BinProver two = check.told("capacity 13;sort 6 2;sort 4 2;sort 3 2;");
        check.due("two", two.tree(5), 2);
        check.due("one thing goes", two.rest(0, 1), 2);
        check.dueAll("closed at once", two, BinProver::tree, 2, 1, 1, 1, 0, 0);
        check.promise(16, "NoSuchElementException: another what.");
        check.noElement("-1", ProofEdgeTest::three, x -> x.tree(-1));
        check.noElement("6", ProofEdgeTest::three, x -> x.tree(6));
        check.noElement("6 of none", BinProver::new, x -> x.tree(6));
        for (int far : FAR) {
            check.noElement("tree " + far, ProofEdgeTest::three, x -> x.tree(far));
        }
    }

    private static void best() {
        check.promise(17, "Of the i-th BIN of BEST (0 on, as they were chosen): how many of a SORT.");
        BinProver x = full();
        check.due("the first of 24", x.best(0, 0), 1);
        check.due("the last of 24", x.best(23, 4), 1);
        check.due("none of another sort", x.best(23, 0), 0);
        BinProver one = check.told("capacity 24;sort 1 12;sort 1 12;");
        check.due("12 in one", one.best(0, 1), 12);
        // the tree finds 31 16 13 four times, then 17 17 13 13
        BinProver six = check.told("capacity 60;sort 31 4;sort 17 4;sort 16 4;sort 13 8;");
        check.dueAll("31", six, (y, i) -> y.best(i, 0), 1, 1, 1, 1, 0, 0);
        check.dueAll("17", six, (y, i) -> y.best(i, 1), 0, 0, 0, 0, 2, 2);
        check.dueAll("16", six, (y, i) -> y.best(i, 2), 1, 1, 1, 1, 0, 0);
        check.dueAll("13", six, (y, i) -> y.best(i, 3), 1, 1, 1, 1, 2, 2);
        check.noElement("a bin of rule 5", () -> six, y -> y.best(6, 0));
        BinProver less = check.told("capacity 10;sort 6 1;sort 5 1;");
        check.due("the 6", less.best(0, 0), 1);
        check.due("it goes", less.rest(0, 0), 1);
        check.due("no 6 any more", less.best(0, 0), 0);
        check.due("the 5", less.best(0, 1), 1);
        check.promise(17, "NoSuchElementException: there is none, no such SORT.");
        check.noElement("-1", ProofEdgeTest::three, y -> y.best(-1, 0));
        check.noElement("3", ProofEdgeTest::three, y -> y.best(3, 0));
        check.noElement("24 of 24", ProofEdgeTest::full, y -> y.best(24, 0));
        check.noElement("0 of no rest", ProofEdgeTest::oneBin, y -> y.best(0, 0));
        check.noElement("sort -1", ProofEdgeTest::three, y -> y.best(0, -1));
        check.noElement("sort 3", ProofEdgeTest::three, y -> y.best(0, 3));
        check.noElement("sort 6 of six", ProofEdgeTest::full, y -> y.best(0, 6));
        for (int far : FAR) {
            check.noElement("best " + far, ProofEdgeTest::three, y -> y.best(far, 0));
            check.noElement("sort " + far, ProofEdgeTest::three, y -> y.best(0, far));
        }
    }

    private static void net() {
        check.term(2, "one for each SORT of which any is there), and one behind them");
        check.dueAll("none", new BinProver(), BinProver::net, 1, 0, 1, 1, 0, 1);
        check.dueAll("no rest", check.told("sort 5 0;bin 0;"), BinProver::net, 1, 0, 1, 1, 0, 1);
        check.dueAll("one of two", check.told("capacity 10;sort 7 0;sort 5 1;"), BinProver::net, 3, 2, 2, 2, 2, 2);
        check.term(2, "with each number (0 to as many as there are) of its SORT");
        check.dueAll("two", check.told("capacity 20;sort 5 2;"), BinProver::net, 4, 3, 3, 2, 3, 3);
        check.dueAll("twelve", check.told("capacity 99;sort 1 12;"), BinProver::net, 14, 13, 13, 2, 13, 13);
        check.term(2, "that many times the SIZE more, is CAPACITY at most");
        check.dueAll("two fit just", check.told("capacity 10;sort 5 3;"), BinProver::net, 4, 3, 3, 2, 3, 3);
        check.dueAll("one fits", check.told("capacity 9;sort 5 3;"), BinProver::net, 3, 2, 2, 2, 2, 2);
        check.dueAll("to 99", check.told("capacity 99;sort 33 3;"), BinProver::net, 5, 4, 4, 2, 4, 4);
        check.dueAll("on from 10", check.told("capacity 10;sort 10 1;sort 1 1;"), BinProver::net, 6, 5, 3, 4, 5, 3);
        check.dueAll("on from 99", check.told("capacity 99;sort 99 1;sort 1 1;"), BinProver::net, 6, 5, 3, 4, 5, 3);
        check.dueAll("to 99, not beyond", check.told("capacity 99;sort 50 3;"), BinProver::net, 3, 2, 2, 2, 2, 2);
        check.promise(18, "NoSuchElementException: another what.");
        check.noElement("-1", ProofEdgeTest::three, x -> x.net(-1));
        check.noElement("6", ProofEdgeTest::three, x -> x.net(6));
        check.noElement("6 of none", BinProver::new, x -> x.net(6));
        for (int far : FAR) {
            check.noElement("net " + far, ProofEdgeTest::three, x -> x.net(far));
        }
    }

    private static void squeezed() {
        check.term(2, "POINTS of one LAYER with the same HIGH are one; ARCS with the same number between the same are one.");
        // layers have 0; 0 6; 0 5 6; 0 3 5 6 8 9
        BinProver x = check.told("capacity 10;sort 6 1;sort 5 1;sort 3 1;");
        check.due("high 0", x.high(0, 0), 1);
        check.due("high 1", x.high(1, 0), 2);
        check.due("high 1", x.high(1, 6), 7);
        check.due("high 2", x.high(2, 0), 7);
        check.due("high 2", x.high(2, 5), 7);
        check.due("high 2", x.high(2, 6), 7);
        // arcs 2 3 6; squeezed points 1 2 1 1, and arcs: 2, then 0 and 1 from high 2 and 0 from high 7, then 2
        check.dueAll("net", x, BinProver::net, 12, 11, 6, 5, 7, 6);
        // all places of a layer go on alike: three arcs between the same two, then two
        BinProver wide = check.told("capacity 99;sort 2 2;sort 1 1;");
        check.dueAll("one point for each layer", wide, BinProver::net, 1 + 3 + 6, 3 + 6, 6, 3, 3 + 2, 6);
    }

    private static void high() {
        check.term(2, "a POINT's HIGH is CAPACITY less the greatest SIZES together that can still come on from it");
        check.due("all fits just", check.told("capacity 10;sort 5 3;").high(0, 0), 0);
        check.due("one fits", check.told("capacity 9;sort 5 3;").high(0, 0), 4);
        check.due("all there is", check.told("capacity 99;sort 1 12;").high(0, 0), 87);
        check.due("at the end", check.told("capacity 10;sort 5 3;").high(1, 0), 10);
        check.due("at the end", check.told("capacity 10;sort 5 3;").high(1, 10), 10);
        check.due("at 99", check.told("capacity 99;sort 33 3;").high(1, 99), 99);
        check.due("of none", new BinProver().high(0, 0), 30);
        BinProver less = check.told("capacity 99;sort 1 1;sort 2 1;");
        check.due("2 and 1", less.high(0, 0), 96);
        check.due("1", less.high(1, 0), 98);
        check.due("the 2 goes", less.rest(1, 0), 1);
        check.due("1", less.high(0, 0), 98);
        check.due("that layer is the last one now", less.high(1, 0), 99);
        check.promise(19, "HIGH of a POINT. NoSuchElementException: there is no such LAYER, POINT.");
        check.noElement("layer -1", ProofEdgeTest::three, x -> x.high(-1, 0));
        check.due("layer 3", three().high(3, 0), 10);
        check.noElement("layer 4", ProofEdgeTest::three, x -> x.high(4, 0));
        check.noElement("layer 7 of six sorts", ProofEdgeTest::full, x -> x.high(7, 0));
        check.due("layer 6 of six sorts", full().high(6, 0), 9);
        check.noElement("layer 1 of none", BinProver::new, x -> x.high(1, 0));
        check.noElement("place -1", ProofEdgeTest::three, x -> x.high(0, -1));
        check.noElement("another place of layer 0", ProofEdgeTest::three, x -> x.high(0, 1));
        check.noElement("a place that can't be come to", ProofEdgeTest::three, x -> x.high(2, 5));
        check.noElement("above the capacity", ProofEdgeTest::three, x -> x.high(1, 12));
        check.noElement("one above the capacity", ProofEdgeTest::three, x -> x.high(1, 11));
        check.noElement("place 100 of 99", () -> check.told("capacity 99;sort 50 2;"), x -> x.high(1, 100));
        for (int far : FAR) {
            check.noElement("layer " + far, ProofEdgeTest::three, x -> x.high(far, 0));
            check.noElement("place " + far, ProofEdgeTest::three, x -> x.high(0, far));
        }
    }
}
