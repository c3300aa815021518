import java.io.IOException;

/** The edges of the text and its faults: term 1, promises 1 to 4. */
public final class TextEdgeTest {
    private static Check check;

    public static void main(String[] args) throws IOException {
        check = new Check();
        limits();
        tokens();
        clauses();
        whichFault();
        faultsOfStanding();
        faultsOfTooMuch();
        faultsOfMeaning();
        newObject();
        feed();
        goodsOfTheTape();
        goodsAnew();
        goodsWithAFault();
        goodsThatThrows();
        fault();
        check.end(1, 4);
    }

    private static void limits() {
        check.term(1, "BINS hold CAPACITY (1 to 99; 30 without).");
        check.faulty("capacity 0;", 2, 9);
        check.due("the least", check.told("capacity 1;").count(0), 1);
        check.due("the greatest", check.told("capacity 99;").count(0), 99);
        check.faulty("capacity 100;", 2, 9);
        check.faulty("capacity 999;", 2, 9);
        check.due("without", check.told("sort 30 1;").count(0), 30);
        check.term(1, "SORTS 0, 1 .. (at most 6)");
        check.due("none", check.told("").count(1), 0);
        check.due("six", check.told("sort 1 0;".repeat(6)).count(1), 6);
        check.faulty("sort 1 0;".repeat(7), 2, 54);
        check.term(1, "have a SIZE (1 to CAPACITY)");
        check.faulty("sort 0 1;", 2, 5);
        check.fine("sort 1 1;");
        check.fine("sort 30 1;");
        check.faulty("sort 31 1;", 2, 5);
        check.fine("capacity 1;sort 1 1;");
        check.faulty("capacity 1;sort 2 1;", 2, 16);
        check.fine("capacity 99;sort 99 1;");
        check.faulty("capacity 99;sort 100 1;", 2, 17);
        check.faulty("capacity 9;sort 10 1;", 2, 16);
        check.term(1, "a REST: how many of it are still to be packed (0 to 12; 24 of all SORTS at most)");
        check.due("none", check.told("sort 1 0;").sort(0, 1), 0);
        check.due("twelve", check.told("sort 1 12;").sort(0, 1), 12);
        check.faulty("sort 1 13;", 2, 7);
        check.due("24 of all", check.told("sort 1 12;sort 1 12;").count(2), 24);
        check.due("24 of all", check.told("sort 1 4;".repeat(6)).count(2), 24);
        check.due("24, and none of one more", check.told("sort 1 12;sort 1 12;sort 1 0;").count(2), 24);
        check.faulty("sort 1 12;sort 1 12;sort 1 1;", 2, 27);
        check.term(1, "BINS 0, 1 .. that are there (at most 12), with goods in them.");
        check.due("none", check.told("sort 1 0;").count(3), 0);
        check.due("twelve", check.told("sort 1 0;" + "bin 0;".repeat(12)).count(3), 12);
        check.faulty("sort 1 0;" + "bin 0;".repeat(13), 2, 81);
        check.due("99 things in each", check.told(wide(3)).sort(0, 3), 297);
        check.due("99 things", check.told(wide(3)).bin(2, 0), 99);
        check.term(1, "The ORDER of SORTS: the greater SIZE first, of like ones the less number.");
        BinProver x = check.told("sort 4 1;sort 5 1;sort 4 1;sort 5 1;sort 30 1;sort 1 1;");
        check.dueAll("rank", x, (y, i) -> y.sort(i, 2), 3, 1, 4, 2, 0, 5);
    }

    /** Bins of 99 things each. */
    private static String wide(int bins) {
        return "capacity 99;sort 1 0;" + ("bin" + " 0".repeat(99) + ";").repeat(bins);
    }

    private static void tokens() {
        check.term(1, "A TEXT of at most 700 bytes tells it.");
        check.due("700 bytes", check.told(" ".repeat(691) + "sort 7 1;").sort(0, 0), 7);
        check.faulty(" ".repeat(699) + "x", 1, 699);
        check.faulty(" ".repeat(696) + "sort", 1, 700);
        check.term(1, "words (a .. z, the longest row)");
        check.fine("sort1 1;bin0;");
        check.fine("capacity9;sort9 0;");
        check.faulty("sortsort 1 1;", 1, 0);
        check.faulty("sorta 1 1;", 1, 0);
        check.faulty("sortz 1 1;", 1, 0);
        check.faulty("so rt 1 1;", 1, 0);
        check.faulty("sor 1 1;", 1, 0);
        check.faulty("bi 0;", 1, 0);
        check.faulty("Sort 1 1;", 1, 0);
        for (String word : new String[] {"capacity", "sort", "bin"}) {
            nearlyWords(word);
        }
        check.faulty("sort` 1 1;", 1, 4);
        check.faulty("sort{ 1 1;", 1, 4);
        check.term(1, "NUMBERS (1 to 3 digits)");
        check.due("one digit", check.told("capacity 9;").count(0), 9);
        check.due("two digits", check.told("capacity 09;").count(0), 9);
        check.due("three digits", check.told("capacity 010;").count(0), 10);
        check.faulty("capacity 0010;", 2, 9);
        check.due("the greatest digit", check.told("sort 19 09;").sort(0, 0), 19);
        check.faulty("sort /1 1;", 1, 5);
        check.faulty("sort :1 1;", 1, 5);
        check.faulty("sort 1/ 1;", 1, 6);
        check.faulty("sort 1: 1;", 1, 6);
        check.term(1, "the sign ; and blanks (32, 10) between them, which count for nothing");
        check.fine("\n\n sort\n1 \n 1 ;\n");
        check.fine(" \n ");
        for (int sign : new int[] {0, 9, 11, 13, 31, 33, 127, 128, 160, 255, 32 + 128, 10 + 128}) {
            check.faulty("sort 1 1;" + (char) sign, 1, 9);
        }
    }

    /** Each letter of a word in turn is another one, is missing, is there twice. */
    private static void nearlyWords(String word) {
        for (int i = 0; i < word.length(); i++) {
            String ahead = word.substring(0, i);
            String behind = word.substring(i + 1);
            char letter = word.charAt(i);
            check.faulty(ahead + (letter == 'z' ? 'a' : (char) (letter + 1)) + behind + " 1 1;", 1, 0);
            check.faulty(ahead + (letter == 'a' ? 'z' : (char) (letter - 1)) + behind + " 1 1;", 1, 0);
            check.faulty(ahead + behind + " 1 1;", 1, 0);
            check.faulty(ahead + letter + letter + behind + " 1 1;", 1, 0);
        }
    }

    private static void clauses() {
        check.term(1, "TEXT: CLAUSE*.");
        check.fine("");
        check.fine("capacity 9;");
        check.fine("capacity 9;sort 1 1;bin 0;sort 2 1;bin 1;");
        check.term(1, "'capacity' CAPACITY");
        check.faulty("capacity ;", 1, 9);
        check.faulty("capacity 9 9;", 1, 11);
        check.faulty("capacity 9 capacity", 1, 11);
        check.faulty("capacity sort", 1, 9);
        check.term(1, "'sort' SIZE REST");
        check.faulty("sort ;", 1, 5);
        check.faulty("sort 1;", 1, 6);
        check.faulty("sort x 1;", 1, 5);
        check.faulty("sort 1 x;", 1, 7);
        check.faulty("sort 1 1 1;", 1, 9);
        check.faulty("sort 1 1 sort", 1, 9);
        check.term(1, "'bin' SORT SORT*");
        check.fine("sort 1 1;bin 0;");
        check.fine("sort 1 1;bin 0 0 0;");
        check.faulty("sort 1 1;bin;", 1, 12);
        check.faulty("sort 1 1;bin x;", 1, 13);
        check.faulty("sort 1 1;bin 0 x;", 1, 15);
        check.faulty("sort 1 1;bin 0 bin 0;", 1, 15);
        check.faulty(";", 1, 0);
        check.faulty("sort 1 1;;", 1, 9);
        check.faulty("7;", 1, 0);
        check.term(1, "a 'bin' has one of each SORT as often as it is told");
        BinProver x = check.told("sort 1 0;sort 2 0;sort 3 0;bin 2 0 2 2;bin 0;");
        check.dueAll("in bin 0", x, (y, i) -> y.bin(0, i), 1, 0, 3);
        check.dueAll("in bin 1", x, (y, i) -> y.bin(1, i), 1, 0, 0);
    }

    private static void whichFault() {
        check.term(1, "FAULTS, the first along the text");
        check.faulty("sort 1 13;x", 2, 7);
        check.faulty("sort 1 1;bin 1;x", 3, 13);
        check.faulty("sort 1 1;capacity x", 4, 9);
        check.faulty("sort 20 1;bin 0 0 x", 5, 16);
        check.faulty("sort 0 13", 2, 5);
        check.term(1, "at a TOKEN's first byte");
        check.faulty("  sorts 1 1;", 1, 2);
        check.faulty("sort  31 1;", 2, 6);
        check.faulty("sort 1 1;bin  5;", 3, 14);
        check.faulty("sort 1 1; capacity 9;", 4, 10);
        check.faulty("sort 020 1;bin 000 000;", 5, 19);
        check.term(1, "of one TOKEN the least");
        check.faulty("1234", 1, 0);
        check.faulty("capacity 9 1234;", 1, 11);
        check.faulty("sort 1 1 1234;", 1, 9);
        check.faulty("sort 1 1;bin 6;", 2, 13);
        check.faulty("sort 1 1;bin 1111;", 2, 13);
        check.faulty("sort 20 1;bin 0 6;", 2, 16);
        check.faulty("sort 20 1;bin 0 0000;", 2, 16);
        check.faulty("sort 20 1;bin 0 1;", 3, 16);
        check.faulty("sort capacity", 1, 5);
        check.faulty("sort 1 1;bin 0 capacity", 1, 15);
        check.faulty("sort 1 0;".repeat(6) + "bin sort", 1, 58);
    }

    private static void faultsOfStanding() {
        check.term(1, "1 a TOKEN that can't stand there, or is none");
        check.faulty("x", 1, 0);
        check.faulty("0", 1, 0);
        check.faulty(";", 1, 0);
        check.faulty("-", 1, 0);
        check.faulty("sort -1 1;", 1, 5);
        check.faulty("sort 1 +1;", 1, 7);
        check.faulty("sort 1,1;", 1, 6);
        check.faulty("sort 1 1.", 1, 8);
        check.faulty("sort 1 1:", 1, 8);
        check.faulty("" + (char) 0, 1, 0);
        check.faulty("" + (char) 255, 1, 0);
        check.term(1, "(the text's length where it ends too soon)");
        check.faulty("capacity", 1, 8);
        check.faulty("capacity 9", 1, 10);
        check.faulty("capacity 9 ", 1, 11);
        check.faulty("sort", 1, 4);
        check.faulty("sort 1", 1, 6);
        check.faulty("sort 1 1", 1, 8);
        check.faulty("sort 1 1 \n", 1, 10);
        check.faulty("sort 1 1;bin", 1, 12);
        check.faulty("sort 1 1;bin 0", 1, 14);
        check.faulty("sort 1 1;bin 0 0", 1, 16);
        // a word that is cut is another word, which can't stand there
        check.faulty("sort 1 1;bi", 1, 9);
    }

    private static void faultsOfTooMuch() {
        check.term(1, "a NUMBER of 4 digits or more");
        check.faulty("capacity 0001;", 2, 9);
        check.faulty("sort 0001 1;", 2, 5);
        check.faulty("sort 1 0001;", 2, 7);
        check.faulty("sort 1 1;bin 0000;", 2, 13);
        check.faulty("sort 1 1;bin 0 0000;", 2, 15);
        check.faulty("capacity " + "0".repeat(600) + "1;", 2, 9);
        // by wrap-around these would be 1
        check.faulty("capacity 4294967297;", 2, 9);
        check.faulty("sort 1 4294967297;", 2, 7);
        check.term(1, "or not as told (SORT 0 to 5)");
        String six = "sort 1 0;".repeat(6);
        check.fine(six + "bin 0;");
        check.fine(six + "bin 5;");
        check.faulty(six + "bin 6;", 2, 58);
        check.faulty(six + "bin 999;", 2, 58);
        check.faulty(six + "bin 5 6;", 2, 60);
        check.term(1, "a REST by which there are more than 24 of all");
        check.fine("sort 1 12;sort 1 11;sort 1 1;");
        check.faulty("sort 1 12;sort 1 11;sort 1 2;", 2, 27);
        check.faulty("sort 1 5;".repeat(5) + "x", 2, 43);
        check.fine("sort 1 4;".repeat(6));
        check.faulty("sort 1 4;".repeat(5) + "sort 1 5;", 2, 52);
        // things in BINS are no REST
        check.fine("sort 1 12;sort 1 12;bin 0 1;");
        check.term(1, "the first word of the 7th 'sort', the 13th 'bin'");
        check.faulty(six + "sort", 2, 54);
        check.faulty(six + "bin 0;sort x", 2, 60);
        check.faulty(six + "sorts", 1, 54);
        check.faulty("sort 1 0;" + "bin 0;".repeat(12) + "bin", 2, 81);
        check.faulty("sort 1 0;" + "bin 0;".repeat(12) + " bin x", 2, 82);
        check.faulty("sort 1 0;" + "bin 0;".repeat(12) + "bins", 1, 81);
        check.fine("sort 1 0;" + "bin 0;".repeat(12) + "sort 1 0;");
    }

    private static void faultsOfMeaning() {
        check.term(1, "3 a SORT that isn't told ahead");
        check.faulty("bin 0;", 3, 4);
        check.faulty("bin 0;sort 1 1;", 3, 4);
        check.faulty("sort 1 1;bin 1;sort 1 1;", 3, 13);
        check.faulty("sort 1 1;bin 0 1;", 3, 15);
        check.faulty("sort 1 1;bin 5;", 3, 13);
        check.faulty("sort 1 0;".repeat(5) + "bin 5;", 3, 49);
        check.fine("sort 1 1;bin 0;sort 1 1;bin 1;");
        check.term(1, "4 'capacity' behind any CLAUSE");
        check.faulty("capacity 9;capacity 9;", 4, 11);
        check.faulty("sort 1 1;capacity 9;", 4, 9);
        check.faulty("sort 1 1;bin 0;capacity 9;", 4, 15);
        check.faulty("sort 1 1;capacity", 4, 9);
        check.fine(" \n capacity 9;");
        check.term(1, "5 a SORT by which a BIN is more than full");
        check.fine("capacity 1;sort 1 1;bin 0;");
        check.faulty("capacity 1;sort 1 1;bin 0 0;", 5, 26);
        check.fine("capacity 9;sort 5 0;sort 4 0;bin 0 1;bin 1 1;");
        check.faulty("capacity 9;sort 5 0;sort 4 0;bin 0 1;bin 0 0;", 5, 43);
        check.faulty("capacity 9;sort 5 0;sort 4 0;bin 1 1 1;", 5, 37);
        check.faulty(wide(1).replace(";bin", ";bin 0"), 5, 24 + 2 * 99 + 1);
    }

    private static void newObject() {
        check.promise(1, "No SORTS.");
        BinProver x = new BinProver();
        check.due("NONE", BinProver.NONE, -1);
        check.dueAll("count", x, BinProver::count, 30, 0, 0, 0, 0, 0, 0, 0, 0, 0, 0, 0, 0);
        check.due("fault", x.fault(), -1);
        check.noElement("sort 0", BinProver::new, y -> y.sort(0, 0));
        check.noElement("bin 0", BinProver::new, y -> y.bin(0, -1));
        check.due("no act", x.undo(), -1);
        check.due("no image", x.restore() ? 1 : 0, 0);
        check.due("no goods", x.goods(0), 0);
    }

    private static void feed() {
        check.promise(2, "Twenty bytes come behind the tape, of each number the highest first: how many it has");
        BinProver x = new BinProver();
        // "capa city  12; sor t 7 " and "3;so rt 8  4;   \n   "
        check.due("twenty", x.feed(0x63617061, 0x63697479, 0x2031323b, 0x736f7274, 0x20372033), 20);
        check.due("twenty more", x.feed(0x3b736f72, 0x74382034, 0x3b202020, 0x0a202020, 0x20202020), 40);
        check.due("goods", x.goods(40), 0);
        check.due("capacity", x.count(0), 12);
        check.due("size", x.sort(0, 0), 7);
        check.due("rest", x.sort(0, 1), 3);
        check.due("size", x.sort(1, 0), 8);
        check.due("rest", x.sort(1, 1), 4);
        check.due("high bytes", x.feed(-1, Integer.MIN_VALUE, 0, 0, 0), 20);
        check.due("they are no token", x.goods(1), 1);
        check.promise(2, "NONE, and none come, if it would have more than 700.");
        BinProver full = new BinProver();
        for (int i = 1; i <= 35; i++) {
            check.due("feed", full.feed(0x20202020, 0x20202020, 0x20202020, 0x20202020, 0x20202020), 20 * i);
        }
        check.due("one more", full.feed(0x78787878, 0x78787878, 0x78787878, 0x78787878, 0x78787878), -1);
        check.due("and one more", full.feed(0, 0, 0, 0, 0), -1);
        check.due("the tape", full.count(9), 700);
        check.due("nothing is refused by it", full.count(10) + full.count(11) + full.count(12), 0);
        check.noArgument("there are no 701", () -> full, y -> y.goods(701));
        check.due("none came", full.goods(700), 0);
        check.due("then it goes on", full.feed(0, 0, 0, 0, 0), 20);
    }

    private static void goodsOfTheTape() {
        check.promise(3, "The tape's first n bytes");
        BinProver x = new BinProver();
        Check.feed(x, "sort 5 1;sort 6 123");
        check.due("the first 18", x.goods(18), 1);
        check.due("the text's length", x.fault(), 18);
        Check.feed(x, "sort 5 1;x");
        check.due("the first 9", x.goods(9), 0);
        check.due("a sort", x.count(1), 1);
        Check.feed(x, "x");
        check.due("none of them", x.goods(0), 0);
        check.due("no sort", x.count(1), 0);
        check.due("no bytes at all", x.goods(0), 0);
        Check.feed(x, "sort 5 1;           ");
        check.due("all of them", x.goods(20), 0);
        check.due("a sort", x.count(1), 1);
        check.promise(3, "(it is empty then)");
        BinProver y = new BinProver();
        Check.feed(y, "sort 5 1;sort 6 1;");
        check.due("goods", y.goods(9), 0);
        check.due("the tape", y.count(9), 0);
        check.noArgument("nothing is left", () -> y, z -> z.goods(1));
        check.due("a new tape", y.feed(0x736f7274, 0x20372032, 0x3b202020, 0x20202020, 0x20202020), 20);
        check.due("begins anew", y.goods(20), 0);
        check.due("size", y.sort(0, 0), 7);
        Check.feed(y, "sort 5 x;sort 6 1;");
        check.due("a fault", y.goods(9), 1);
        check.due("the tape behind a fault", y.count(9), 0);
    }

    private static BinProver busy() {
        BinProver x = check.told("capacity 20;sort 5 3;sort 6 3;bin 0 1;bin 1;");
        check.due("pack", x.pack(0, 3), 1);
        check.due("note", x.note(3, 2), 1);
        x.image();
        check.due("put", x.put(1, 0), 3);
        return x;
    }

    private static void goodsAnew() {
        check.promise(3, "are a TEXT, all anew: 0");
        BinProver x = busy();
        check.due("goods", Check.tell(x, "sort 7 2;sort 8 0;sort 1 1;bin 2 1;"), 0);
        check.dueSame("state", Check.state(x), "30 3 3 1 21 0 0 0 ; 7 2; 8 0; 1 1 | 0 1 1 fault -1");
        check.due("goods of none", Check.tell(x, ""), 0);
        check.dueSame("state", Check.state(x), "30 0 0 0 0 0 0 0  fault -1");
        check.promise(3, "ACTS, what is NOTED, the image are gone.");
        BinProver y = busy();
        check.due("goods", Check.tell(y, "capacity 20;sort 5 3;sort 6 3;bin 0 1;bin 1;"), 0);
        check.due("acts", y.count(7), 0);
        check.due("undo", y.undo(), -1);
        check.due("noted", y.count(8), 0);
        check.due("note", y.note(3, 2), 1);
        check.due("restore", y.restore() ? 1 : 0, 0);
        check.due("noted stays", y.count(8), 1);
        check.promise(3, "or the FAULT (all stays, but STATUS)");
        BinProver z = busy();
        check.refused("put", 1, () -> z, w -> w.put(0, 7));
        check.refused("note", 2, () -> z, w -> w.note(8, 0));
        check.due("goods with a fault", Check.tell(z, "x"), 1);
        check.dueSame("status behind a fault", Check.status(z), " status 1 1 1");
        check.due("goods without", Check.tell(z, "sort 1 1;"), 0);
        check.dueSame("status behind goods", Check.status(z), " status 1 1 1");
    }

    private static void goodsWithAFault() {
        check.promise(3, "(all stays, but STATUS)");
        String[] texts = {"x", "capacity 9;sort 1 1;sort 13 1;", "capacity 9;sort 9 9;bin 1;", "sort 1 1;capacity 8;",
            "capacity 9;sort 5 2;bin 0 0;", "capacity 9;sort 1 1;bin 0;sort"};
        int[] faults = {1, 2, 3, 4, 5, 1};
        for (int i = 0; i < texts.length; i++) {
            BinProver x = busy();
            String before = Check.state(x).replaceAll(" fault.*", "");
            check.due("goods", Check.tell(x, texts[i]), faults[i]);
            check.dueSame("state", Check.state(x).replaceAll(" fault.*", ""), before);
            check.dueSame("status", Check.status(x), " status 1 0 0");
            check.due("what is noted", x.other(2), 1);
            check.due("acts", x.undo(), 1);
            check.due("the image", x.restore() ? 1 : 0, 1);
            check.dueSame("status by the image", Check.status(x), " status 0 0 0");
            check.due("another one", Check.tell(x, texts[i]), faults[i]);
            check.due("and one more", Check.tell(x, texts[i]), faults[i]);
            check.due("each counts", x.count(10), 2);
        }
    }

    private static BinProver taped() {
        BinProver x = busy();
        check.due("a fault", Check.tell(x, "  x"), 1);
        Check.feed(x, "sort 7 2; ");
        return x;
    }

    private static void goodsThatThrows() {
        check.promise(3, "IllegalArgumentException: the tape has not so many, n below 0 (nothing changes).");
        for (int n : new int[] {21, 22, 700, 701, Integer.MAX_VALUE, -1, -20, Integer.MIN_VALUE}) {
            check.noArgument("goods " + n, TextEdgeTest::taped, x -> x.goods(n));
        }
        check.noArgument("goods 1 of no tape", BinProver::new, x -> x.goods(1));
        check.noArgument("goods -1 of no tape", BinProver::new, x -> x.goods(-1));
        BinProver y = taped();
        check.noArgument("goods 21", () -> y, x -> x.goods(21));
        check.due("the tape can still be read", y.goods(9), 0);
        check.due("size", y.sort(0, 0), 7);
    }

    private static void fault() {
        check.promise(4, "The place of the latest goods()'s FAULT");
        BinProver x = new BinProver();
        Check.tell(x, "x");
        check.due("the first byte", x.fault(), 0);
        Check.tell(x, "sort 5 x;");
        check.due("the latest", x.fault(), 7);
        check.noArgument("goods", () -> x, y -> y.goods(9));
        check.due("behind a call that throws", x.fault(), 7);
        x.feed(0, 0, 0, 0, 0);
        x.image();
        x.put(0, 0);
        x.restore();
        check.due("behind other calls", x.fault(), 7);
        check.promise(4, "NONE without.");
        check.due("ahead of any goods", new BinProver().fault(), -1);
        check.due("goods", x.goods(0), 0);
        check.due("behind goods without", x.fault(), -1);
    }
}
