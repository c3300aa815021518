import java.io.IOException;

/** The edges of what is packed by hand and undone: ACTS of term 2, promises 20 to 26. */
public final class ActEdgeTest {
    private static final int[] FAR = {Integer.MIN_VALUE, -100, -2, 100, 1000, Integer.MAX_VALUE};
    private static Check check;

    public static void main(String[] args) throws IOException {
        check = new Check();
        pack();
        packRefused();
        packIntoTwelve();
        put();
        putRefused();
        take();
        takeRefused();
        rest();
        restRefused();
        load();
        loadRefused();
        join();
        joinRefused();
        undo();
        undoEach();
        actsThatAreKept();
        check.end(20, 26);
    }

    /** Bins of 5, 7 and 8; a 5, a 7 and four 2s to come. */
    private static BinProver some() {
        return check.told("capacity 10;sort 5 1;sort 7 1;sort 2 4;sort 1 0;bin 0;bin 1;bin 2 2 2 2;");
    }

    /** Twelve bins, the last of them full, the first one with 1 free, all others with none. */
    private static BinProver twelve() {
        return check.told("capacity 5;sort 5 1;sort 1 2;sort 2 1;sort 4 0;bin 3;" + "bin 0;".repeat(11));
    }

    private static void pack() {
        check.term(2, "a thing of REST is PACKED into BINS by a RULE (0 to 3, BINS being those that are there)");
        int[] twos = {2, 0, 2, 0};
        int[] sevens = {3, 3, 3, 3};
        int[] fives = {3, 0, 0, 0};
        for (int rule = 0; rule < 4; rule++) {
            check.due("2 by " + rule, some().pack(2, rule), twos[rule]);
            check.due("7 by " + rule, some().pack(1, rule), sevens[rule]);
            check.due("5, which fits just, by " + rule, some().pack(0, rule), fives[rule]);
            check.due("into the first bin of all by " + rule, check.told("sort 5 1;").pack(0, rule), 0);
        }
        BinProver like = check.told("capacity 10;sort 6 0;sort 2 2;bin 0;bin 0;");
        check.due("like ones by 2", like.pack(1, 2), 0);
        check.due("the emptier one by 3", like.pack(1, 3), 1);
        check.promise(20, "One of a SORT is PACKED by a RULE (0 to 3): into which BIN.");
        BinProver x = some();
        check.due("the second one", x.pack(0, 2), 0);
        check.due("it is in there", x.bin(0, 0), 2);
        check.due("it is no rest", x.sort(0, 1), 0);
        check.due("an act", x.count(7), 1);
        check.due("nothing is refused", x.count(11), 0);
        check.due("a new one", x.pack(1, 0), 3);
        check.due("bins", x.count(3), 4);
        check.due("it is in there", x.bin(3, 1), 1);
        check.due("all of it", x.bin(3, -1), 7);
    }

    private static void packRefused() {
        check.promise(20, "NONE (STATUS 1): no such SORT, RULE, no REST of it");
        check.refused("sort -1", 1, ActEdgeTest::some, x -> x.pack(-1, 1));
        check.refused("sort 4", 1, ActEdgeTest::some, x -> x.pack(4, 1));
        check.refused("sort 0 of none", 1, BinProver::new, x -> x.pack(0, 1));
        check.refused("sort 6 of six", 1, () -> check.told("sort 1 4;".repeat(6)), x -> x.pack(6, 1));
        check.refused("rule -1", 1, ActEdgeTest::some, x -> x.pack(2, -1));
        check.refused("rule 4", 1, ActEdgeTest::some, x -> x.pack(2, 4));
        check.refused("rule 7", 1, ActEdgeTest::some, x -> x.pack(2, 7));
        check.refused("no rest of it", 1, ActEdgeTest::some, x -> x.pack(3, 1));
        for (int far : FAR) {
            check.refused("sort " + far, 1, ActEdgeTest::some, x -> x.pack(far, 1));
            check.refused("rule " + far, 1, ActEdgeTest::some, x -> x.pack(2, far));
        }
        BinProver last = some();
        check.due("the last of it", last.pack(0, 1), 0);
        check.refused("no more of it", 1, () -> last, x -> x.pack(0, 1));
    }

    private static void packIntoTwelve() {
        check.promise(20, "there are 12 BINS and it fits into none that the RULE looks at");
        for (int rule = 0; rule < 4; rule++) {
            int by = rule;
            check.refused("a thing that fits nowhere, by " + rule, 1, ActEdgeTest::twelve, x -> x.pack(0, by));
            check.refused("a thing one too great, by " + rule, 1, ActEdgeTest::twelve, x -> x.pack(2, by));
        }
        check.refused("next looks at the last one alone", 1, ActEdgeTest::twelve, x -> x.pack(1, 0));
        for (int rule = 1; rule < 4; rule++) {
            check.due("what fits just, by " + rule, twelve().pack(1, rule), 0);
        }
        BinProver eleven = check.told("capacity 5;sort 5 2;" + "bin 0;".repeat(11));
        check.due("the twelfth", eleven.pack(0, 0), 11);
        check.refused("the thirteenth", 1, () -> eleven, x -> x.pack(0, 0));
    }

    private static BinProver forPut() {
        return check.told("capacity 10;sort 4 3;sort 7 1;sort 1 0;bin 0;bin 1;");
    }

    private static void put() {
        check.term(2, "a thing is put into one BIN");
        BinProver x = forPut();
        check.due("put", x.put(0, 0), 2);
        check.due("in it", x.bin(0, 0), 2);
        check.due("rest", x.sort(0, 1), 2);
        check.due("an act", x.count(7), 1);
        check.promise(21, "One of a SORT is put into a BIN: what is free in it then.");
        check.due("full", check.told("capacity 10;sort 4 0;sort 6 1;bin 0;").put(1, 0), 0);
        check.due("into the twelfth", check.told("capacity 5;sort 1 1;" + "bin 0;".repeat(12)).put(0, 11), 3);
        check.due("98 free", check.told("capacity 99;sort 1 1;sort 2 0;bin 1;").put(0, 0), 96);
    }

    private static void putRefused() {
        check.promise(21, "NONE (STATUS 1): no such SORT, BIN, no REST, it doesn't fit.");
        check.refused("sort -1", 1, ActEdgeTest::forPut, x -> x.put(-1, 0));
        check.refused("sort 3", 1, ActEdgeTest::forPut, x -> x.put(3, 0));
        check.refused("sort 6 of six", 1, () -> check.told("sort 1 4;".repeat(6) + "bin 0;"), x -> x.put(6, 0));
        check.refused("bin -1", 1, ActEdgeTest::forPut, x -> x.put(0, -1));
        check.refused("bin 2", 1, ActEdgeTest::forPut, x -> x.put(0, 2));
        check.refused("bin 12 of twelve", 1, ActEdgeTest::twelve, x -> x.put(1, 12));
        check.refused("bin 0 of none", 1, () -> check.told("sort 1 1;"), x -> x.put(0, 0));
        check.refused("no rest", 1, ActEdgeTest::forPut, x -> x.put(2, 0));
        check.refused("one too great", 1, ActEdgeTest::forPut, x -> x.put(0, 1));
        check.refused("into a full one", 1, ActEdgeTest::twelve, x -> x.put(1, 1));
        for (int far : FAR) {
            check.refused("sort " + far, 1, ActEdgeTest::forPut, x -> x.put(far, 0));
            check.refused("bin " + far, 1, ActEdgeTest::forPut, x -> x.put(0, far));
        }
    }

    /** All that is there is 23, one less than can be. */
    private static BinProver forTake() {
        return check.told("capacity 10;sort 2 11;sort 3 0;sort 1 12;bin 0;bin 1 0;bin 2 1 2;");
    }

    private static void take() {
        check.term(2, "is taken out again (to REST; a BIN with nothing in it is gone, those behind it are one less)");
        BinProver x = forTake();
        check.due("take", x.take(0, 0), 2);
        check.due("rest", x.sort(0, 1), 12);
        check.due("what was bin 1", x.bin(0, 1), 1);
        check.due("what was bin 2", x.bin(1, 2), 2);
        check.noElement("no bin 2", () -> x, y -> y.bin(2, 0));
        check.due("an act", x.count(7), 1);
        BinProver middle = forTake();
        check.due("one of two", middle.take(1, 1), 3);
        check.due("the other is in there", middle.bin(1, -1), 2);
        BinProver twelve = twelve();
        check.due("a sort's rest", twelve.rest(0, 0), 1);
        check.due("the last of twelve", twelve.take(0, 11), 11);
        check.due("the first one stays", twelve.bin(0, 3), 1);
        check.due("the first of eleven", twelve.take(3, 0), 10);
        check.due("the others move", twelve.bin(0, 0), 1);
        BinProver unlike = unlike();
        check.due("the first of twelve", unlike.take(0, 0), 11);
        check.dueAll("each is one less", unlike, (y, i) -> y.bin(i, -1), 2, 3, 4, 5, 6, 7, 8, 9, 10, 11, 12);
        check.promise(22, "One of a SORT is taken out of a BIN: how many BINS are there.");
        BinProver only = check.told("sort 5 11;bin 0;");
        check.due("none", only.take(0, 0), 0);
        check.due("twelve of it", only.sort(0, 1), 12);
        BinProver wide = check.told("capacity 99;sort 1 0;bin" + " 0".repeat(99) + ";");
        check.due("one of 99", wide.take(0, 0), 1);
        check.due("98", wide.bin(0, 0), 98);
    }

    /** Twelve bins of 1 to 12. */
    private static BinProver unlike() {
        StringBuilder text = new StringBuilder("sort 1 0;");
        for (int i = 1; i <= 12; i++) {
            text.append("bin").append(" 0".repeat(i)).append(';');
        }
        return check.told(text.toString());
    }

    private static void takeRefused() {
        check.promise(22, "NONE (STATUS 1): no such SORT, BIN, none of it in there, REST of it is 12, REST of all 24.");
        check.refused("sort -1", 1, ActEdgeTest::forTake, x -> x.take(-1, 0));
        check.refused("sort 3", 1, ActEdgeTest::forTake, x -> x.take(3, 0));
        check.refused("sort 6 of six", 1, () -> check.told("sort 1 1;".repeat(6) + "bin 0;"), x -> x.take(6, 0));
        check.refused("bin -1", 1, ActEdgeTest::forTake, x -> x.take(0, -1));
        check.refused("bin 3", 1, ActEdgeTest::forTake, x -> x.take(0, 3));
        check.refused("bin 12 of twelve", 1, ActEdgeTest::twelve, x -> x.take(0, 12));
        check.refused("bin 0 of none", 1, () -> check.told("sort 1 1;"), x -> x.take(0, 0));
        check.refused("none of it in there", 1, ActEdgeTest::forTake, x -> x.take(1, 0));
        check.refused("rest of it is 12", 1, () -> check.told("sort 1 12;bin 0;"), x -> x.take(0, 0));
        check.refused("rest of all is 24", 1, () -> check.told("sort 1 12;sort 1 0;sort 1 12;bin 1;"), x -> x.take(1, 0));
        check.due("rest of all is 23", check.told("sort 1 12;sort 1 0;sort 1 11;bin 1;").take(1, 0), 0);
        check.due("rest of it is 11", check.told("sort 1 11;bin 0 0;").take(0, 0), 1);
        for (int far : FAR) {
            check.refused("sort " + far, 1, ActEdgeTest::forTake, x -> x.take(far, 0));
            check.refused("bin " + far, 1, ActEdgeTest::forTake, x -> x.take(0, far));
        }
    }

    private static void rest() {
        check.term(2, "REST of a SORT is told anew");
        BinProver x = check.told("sort 2 5;sort 3 12;bin 0;");
        check.due("told", x.rest(0, 7), 5);
        check.due("it is so", x.sort(0, 1), 7);
        check.due("the other one stays", x.sort(1, 1), 12);
        check.due("bins stay", x.bin(0, 0), 1);
        check.due("an act", x.count(7), 1);
        check.due("the same again", x.rest(0, 7), 7);
        check.due("is an act, too", x.count(7), 2);
        check.promise(23, "REST of a SORT is told: what it was.");
        check.due("0", x.rest(0, 0), 7);
        check.due("12", x.rest(0, 12), 0);
        check.due("24 of all", x.count(2), 24);
        check.due("12 again", x.rest(1, 12), 12);
        check.due("less of all", x.rest(1, 11), 12);
        check.due("of the last of six", check.told("sort 1 4;".repeat(6)).rest(5, 0), 4);
    }

    private static BinProver forRest() {
        return check.told("sort 2 12;sort 3 11;sort 4 0;");
    }

    private static void restRefused() {
        check.promise(23, "NONE (STATUS 1): no such SORT, not 0 to 12, REST of all would be above 24.");
        check.refused("sort -1", 1, ActEdgeTest::forRest, x -> x.rest(-1, 0));
        check.refused("sort 3", 1, ActEdgeTest::forRest, x -> x.rest(3, 0));
        check.refused("sort 0 of none", 1, BinProver::new, x -> x.rest(0, 0));
        check.refused("sort 6 of six", 1, () -> check.told("sort 1 4;".repeat(6)), x -> x.rest(6, 0));
        check.refused("-1", 1, () -> check.told("sort 1 5;"), x -> x.rest(0, -1));
        check.refused("13", 1, () -> check.told("sort 1 5;"), x -> x.rest(0, 13));
        check.refused("25 of all", 1, ActEdgeTest::forRest, x -> x.rest(2, 2));
        check.due("24 of all", forRest().rest(2, 1), 0);
        check.refused("25 of all, one more of what is there", 1,
                () -> check.told("sort 2 12;sort 3 11;sort 4 1;"), x -> x.rest(2, 2));
        for (int far : FAR) {
            check.refused("sort " + far, 1, ActEdgeTest::forRest, x -> x.rest(far, 0));
            check.refused("many " + far, 1, () -> check.told("sort 1 5;"), x -> x.rest(0, far));
        }
    }

    private static void load() {
        check.term(2, "THE FIRST BIN of BEST (of all REST) is packed as one more");
        BinProver x = check.told("capacity 13;sort 3 2;sort 6 2;sort 4 2;bin 0;");
        check.due("6 4 3 by the tree, not 6 6 by rule 5", x.load(), 13);
        check.due("one more", x.count(3), 2);
        check.dueAll("in it", x, (y, i) -> y.bin(1, i), 1, 1, 1);
        check.dueAll("rest", x, (y, i) -> y.sort(i, 1), 1, 1, 1);
        check.due("an act", x.count(7), 1);
        check.due("the last of it", x.load(), 13);
        check.due("no rest", x.count(2), 0);
        // a tree of more sorts, asked ahead, leaves nothing behind
        BinProver fewer = check.told("capacity 26;sort 5 3;sort 3 2;sort 8 3;sort 3 2;");
        check.due("fewest", fewer.tree(0), 2);
        check.due("goods", Check.tell(fewer, "capacity 12;sort 5 2;sort 4 1;sort 3 3;"), 0);
        check.due("5 4 3", fewer.load(), 12);
        check.due("rest of all", fewer.count(2), 3);
        check.dueAll("rest", fewer, (y, i) -> y.sort(i, 1), 1, 0, 2);
        check.promise(24, "THE FIRST BIN of BEST is packed: SIZES in it together.");
        check.due("one thing", check.told("sort 5 1;").load(), 5);
        BinProver all = check.told("capacity 24;sort 1 12;sort 1 12;");
        check.due("all of 24", all.load(), 24);
        check.due("12 of it", all.bin(0, 1), 12);
        check.due("99", check.told("capacity 99;sort 99 1;").load(), 99);
    }

    private static void loadRefused() {
        check.promise(24, "NONE (STATUS 1): no REST, there are 12 BINS.");
        check.refused("no sorts", 1, BinProver::new, BinProver::load);
        check.refused("no rest", 1, () -> check.told("sort 5 0;bin 0;"), BinProver::load);
        check.refused("12 bins", 1, ActEdgeTest::twelve, BinProver::load);
        BinProver eleven = check.told("capacity 5;sort 5 2;" + "bin 0;".repeat(11));
        check.due("the twelfth", eleven.load(), 5);
        check.due("bins", eleven.count(3), 12);
        check.refused("the thirteenth", 1, () -> eleven, BinProver::load);
    }

    /** Bins of 3, 8, 4 and 6. */
    private static BinProver forJoin() {
        return check.told("capacity 10;sort 4 1;sort 3 1;sort 8 1;bin 1;bin 2;bin 0;bin 1 1;");
    }

    private static void join() {
        check.term(2, "two BINS become one");
        BinProver x = forJoin();
        check.due("into one behind it", x.join(2, 0), 3);
        check.due("bins", x.count(3), 3);
        check.dueAll("bins", x, (y, i) -> y.bin(i, -1), 8, 7, 6);
        check.due("goods of both", x.bin(1, 0), 1);
        check.due("goods of both", x.bin(1, 1), 1);
        check.due("an act", x.count(7), 1);
        check.due("no rest", x.count(2), 3);
        BinProver y = forJoin();
        check.due("into one ahead of it", y.join(0, 3), 1);
        check.dueAll("bins", y, (z, i) -> z.bin(i, -1), 9, 8, 4);
        check.promise(25, "Goods of the second BIN come into the first one, the second one is gone: what is free then.");
        check.due("full", forJoin().join(2, 3), 0);
        check.due("full", forJoin().join(3, 2), 0);
        BinProver last = check.told("capacity 2;sort 1 0;" + "bin 0;".repeat(12));
        check.due("the last of twelve", last.join(0, 11), 0);
        check.due("bins", last.count(3), 11);
        check.due("the last of eleven", last.bin(10, -1), 1);
        check.noElement("no bin 11", () -> last, z -> z.bin(11, -1));
        BinProver unlike = unlike();
        check.due("the first into the last of twelve", unlike.join(11, 0), 17);
        check.dueAll("each is one less", unlike, (y2, i) -> y2.bin(i, -1), 2, 3, 4, 5, 6, 7, 8, 9, 10, 11, 13);
    }

    private static void joinRefused() {
        check.promise(25, "NONE (STATUS 1): no such BINS, like ones, it doesn't fit.");
        check.refused("bin -1", 1, ActEdgeTest::forJoin, x -> x.join(-1, 0));
        check.refused("other -1", 1, ActEdgeTest::forJoin, x -> x.join(0, -1));
        check.refused("bin 4", 1, ActEdgeTest::forJoin, x -> x.join(4, 0));
        check.refused("other 4", 1, ActEdgeTest::forJoin, x -> x.join(0, 4));
        check.refused("bins of none", 1, BinProver::new, x -> x.join(0, 1));
        check.refused("12 of twelve", 1, () -> check.told("capacity 2;sort 1 0;" + "bin 0;".repeat(12)), x -> x.join(0, 12));
        check.refused("like ones", 1, ActEdgeTest::forJoin, x -> x.join(0, 0));
        check.refused("like ones, the last", 1, ActEdgeTest::forJoin, x -> x.join(3, 3));
        check.refused("one too much", 1, ActEdgeTest::forJoin, x -> x.join(0, 1));
        check.refused("one too much, the other way", 1, ActEdgeTest::forJoin, x -> x.join(1, 0));
        check.refused("full ones", 1, ActEdgeTest::twelve, x -> x.join(1, 2));
        for (int far : FAR) {
            check.refused("bin " + far, 1, ActEdgeTest::forJoin, x -> x.join(far, 0));
            check.refused("other " + far, 1, ActEdgeTest::forJoin, x -> x.join(0, far));
        }
    }

    private static void undo() {
        check.promise(26, "The last ACT is UNDONE: how many are left.");
        BinProver x = check.told("sort 1 0;");
        check.due("told", x.rest(0, 1), 0);
        check.due("told", x.rest(0, 2), 1);
        check.due("one is left", x.undo(), 1);
        check.due("rest", x.sort(0, 1), 1);
        check.due("none is left", x.undo(), 0);
        check.due("rest", x.sort(0, 1), 0);
        check.promise(26, "NONE: there is none.");
        check.due("no more", x.undo(), -1);
        check.due("rest", x.sort(0, 1), 0);
        check.due("of a new object", new BinProver().undo(), -1);
        check.dueSame("nothing is refused by it", Check.status(x), " status 0 0 0");
        BinProver refused = check.told("sort 1 0;");
        check.due("refused", refused.rest(0, 13), -1);
        check.due("what was refused is no act", refused.undo(), -1);
        check.due("it stays refused", refused.count(11), 1);
    }

    private static void undone(String what, Check.Call act) {
        BinProver x = check.told("capacity 10;sort 4 3;sort 3 3;sort 6 1;bin 0;bin 1;bin 0 1 1;");
        String before = Check.state(x);
        check.due(what + " is an act", act.on(x) >= 0 ? 1 : 0, 1);
        check.due(what + " changes something", Check.state(x).equals(before) ? 0 : 1, 1);
        check.due("undo " + what, x.undo(), 0);
        check.dueSame("the state behind " + what + " and undo", Check.state(x), before);
        check.due("no more of it", x.undo(), -1);
    }

    private static void undoEach() {
        check.term(2, "They are UNDONE, the last one first.");
        undone("pack", x -> x.pack(2, 1));
        undone("pack into a new one", x -> x.pack(2, 0));
        undone("put", x -> x.put(0, 1));
        undone("take", x -> x.take(1, 2));
        undone("take a bin away", x -> x.take(0, 0));
        undone("rest", x -> x.rest(2, 0));
        undone("load", BinProver::load);
        undone("join", x -> x.join(1, 0));
        undone("join the other way", x -> x.join(0, 1));
        BinProver x = check.told("capacity 10;sort 4 3;sort 3 3;sort 6 1;bin 0;bin 1;");
        check.due("pack", x.pack(2, 1), 0);
        String first = Check.state(x);
        check.due("take", x.take(1, 1), 1);
        String second = Check.state(x);
        check.due("load", x.load() > 0 ? 1 : 0, 1);
        check.due("undo", x.undo(), 2);
        check.dueSame("the second", Check.state(x), second);
        check.due("undo", x.undo(), 1);
        check.dueSame("the first", Check.state(x), first);
        check.due("another act in place of those", x.rest(0, 0), 3);
        check.due("undo", x.undo(), 1);
        check.dueSame("the first", Check.state(x), first);
    }

    private static void actsThatAreKept() {
        check.term(2, "ACTS (at most 40 are kept, the latest ones)");
        for (int acts : new int[] {39, 40, 41, 85}) {
            BinProver x = check.told("sort 1 0;");
            for (int i = 1; i <= acts; i++) {
                x.rest(0, i % 11);
            }
            int kept = Math.min(acts, 40);
            check.due("kept of " + acts, x.count(7), kept);
            for (int i = 1; i <= kept; i++) {
                check.due("undo", x.undo(), kept - i);
                check.due("rest behind " + i, x.sort(0, 1), (acts - i) % 11);
            }
            check.due("no more", x.undo(), -1);
            check.due("the oldest stay", x.sort(0, 1), (acts - kept) % 11);
        }
    }
}
