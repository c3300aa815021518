import java.util.NoSuchElementException;

/** Goods packed into fewest equal bins, and the proof that no fewer do. */
public final class BinProver {
    public static final int NONE = -1;

    private static final int KINDS = 6;
    private static final int BINS = 12;
    private static final int THINGS = 24;
    private static final int OF_ONE = 12;
    private static final int GREATEST = 99;
    private static final int TAPE = 700;
    private static final int ACTS = 40;
    private static final int NOTES = 8;
    private static final int RULES = 8;
    private static final int WAYS = 4;
    private static final int STEPS = 20;
    private static final int YEARS = 60;

    private final byte[] tape = new byte[TAPE];
    private int taped = 0;
    private int faultAt = NONE;
    private boolean kept = false;
    private final Reader reader = new Reader();
    private final Lot told = new Lot();
    private final Lot asked = new Lot();
    private final Stock stock = new Stock();
    private final Stock picture = new Stock();
    private final Packer packer = new Packer();
    private final Tree proof = new Tree();
    private final Net web = new Net();
    private final Guess guess = new Guess();
    private final int[] row = new int[KINDS];
    private final int[] filled = new int[BINS + YEARS];

    public BinProver() {
    }

    public int feed(int a, int b, int c, int d, int e) {
        if (taped + 20 > TAPE) {
            return NONE;
        }
        tapeInt(a);
        tapeInt(b);
        tapeInt(c);
        tapeInt(d);
        tapeInt(e);
        return taped;
    }

    public int goods(int n) throws IllegalArgumentException {
        if (n < 0 || n > taped) {
            throw new IllegalArgumentException("the tape has not so many bytes");
        }
        taped = 0;
        int fault = reader.readText(tape, n);
        faultAt = reader.place;
        if (fault != 0) {
            stock.refused[0]++;
            return fault;
        }
        told.becomeLike(reader.lot);
        told.arrange();
        stock.beginWith(reader.row);
        kept = false;
        return 0;
    }

    public int fault() {
        return faultAt;
    }

    public int count(int what) throws NoSuchElementException {
        switch (what) {
            case 0: return told.capacity;
            case 1: return told.kinds;
            case 2: return stock.restOfAll();
            case 3: return stock.bins();
            case 4: return wasteNow();
            case 5: return critical(restNow());
            case 6: return apart(restNow());
            case 7: return stock.acts;
            case 8: return stock.noted;
            case 9: return taped;
            case 10: return stock.refused[0];
            case 11: return stock.refused[1];
            case 12: return stock.refused[2];
            default: throw new NoSuchElementException("no such count");
        }
    }

    public int sort(int sort, int what) throws NoSuchElementException {
        needSort(sort);
        switch (what) {
            case 0: return told.sizes[sort];
            case 1: return stock.restOf(sort);
            case 2: return told.rankOf(sort);
            case 3: return stock.inBins(sort);
            default: throw new NoSuchElementException("no such number of a sort");
        }
    }

    public int bin(int bin, int sort) throws NoSuchElementException {
        needBin(bin);
        if (sort == NONE) {
            return told.weightOfBin(stock.row[bin]);
        }
        needSort(sort);
        return Stock.part(stock.row[bin], sort);
    }

    public int rule(int rule) throws NoSuchElementException {
        needRule(rule);
        return packer.packAll(restNow(), rule);
    }

    public int into(int rule, int i) throws NoSuchElementException {
        needRule(rule);
        packer.packAll(restNow(), rule);
        if (i < 0 || i >= packer.things || i >= packer.where.length) {
            throw new NoSuchElementException("no such thing");
        }
        return packer.where[i];
    }

    public int guaranteed(int what) throws NoSuchElementException {
        if (what != 0 && what != 1) {
            throw new NoSuchElementException("no such guarantee");
        }
        Lot lot = restNow();
        int fewest = proof.fewestOf(lot);
        if (what == 0) {
            return 10 * packer.packAll(lot, 1) <= 17 * fewest ? 1 : 0;
        }
        return 9 * packer.packAll(lot, 5) <= 11 * fewest + 6 ? 1 : 0;
    }

    public int bound(int what) throws NoSuchElementException {
        Lot lot = restNow();
        switch (what) {
            case 0: return Bounds.areaOf(lot, lot.many);
            case 1: return Bounds.splitOf(lot, lot.many, Bounds.bestSplit(lot, lot.many));
            case 2: return Bounds.bestSplit(lot, lot.many);
            case 3: return Bounds.stepOf(lot, lot.many, Bounds.bestStep(lot, lot.many));
            case 4: return Bounds.bestStep(lot, lot.many);
            case 5: return Bounds.greatestOf(lot, lot.many);
            default: throw new NoSuchElementException("no such bound");
        }
    }

    public int split(int a) throws IllegalArgumentException {
        if (a < 0 || a > told.capacity / 2) {
            throw new IllegalArgumentException("not 0 to half of the capacity");
        }
        Lot lot = restNow();
        return Bounds.splitOf(lot, lot.many, a);
    }

    public int step(int k) throws IllegalArgumentException {
        if (k < 1 || k > STEPS) {
            throw new IllegalArgumentException("not 1 to 20");
        }
        Lot lot = restNow();
        return Bounds.stepOf(lot, lot.many, k);
    }

    public int patterns(int what) throws NoSuchElementException {
        Lot lot = restNow();
        switch (what) {
            case 0: return web.waysThrough(lot);
            case 1: return Patterns.countMaximal(lot, row, false);
            case 2: return Patterns.countMaximal(lot, row, true);
            default: throw new NoSuchElementException("no such number of patterns");
        }
    }

    public int pattern(int i, int sort) throws NoSuchElementException {
        needSortOrNone(sort);
        Lot lot = restNow();
        if (i < 0 || !Patterns.goTo(lot, row, i)) {
            throw new NoSuchElementException("no such pattern");
        }
        return sort == NONE ? lot.weightOf(row) : row[sort];
    }

    public int tree(int what) throws NoSuchElementException {
        if (what < 0 || what > 5) {
            throw new NoSuchElementException("no such number of the tree");
        }
        proof.fewestOf(restNow());
        switch (what) {
            case 0: return proof.bins;
            case 1: return proof.cut ? 0 : 1;
            case 2: return proof.nodes;
            case 3: return proof.closed;
            case 4: return proof.found;
            default: return proof.deepest;
        }
    }

    public int best(int i, int sort) throws NoSuchElementException {
        needSort(sort);
        int bins = proof.fewestOf(restNow());
        if (i < 0 || i >= bins || i >= THINGS) {
            throw new NoSuchElementException("no such bin of the best packing");
        }
        return proof.best[i * KINDS + sort];
    }

    public int net(int what) throws NoSuchElementException {
        if (what < 0 || what > 5) {
            throw new NoSuchElementException("no such number of the net");
        }
        Lot lot = restNow();
        int paths = web.waysThrough(lot);
        switch (what) {
            case 0: return web.countPoints(lot, false);
            case 1: return web.countArcs(lot, false);
            case 3: return web.countPoints(lot, true);
            case 4: return web.countArcs(lot, true);
            // Points made one go on by the same numbers to points made one, so no path is lost or won.
            default: return paths;
        }
    }

    public int high(int layer, int place) throws NoSuchElementException {
        Lot lot = restNow();
        web.waysThrough(lot);
        if (!web.isPoint(layer, place, lot.capacity)) {
            throw new NoSuchElementException("no such point");
        }
        return web.highOf(layer, place, lot.capacity);
    }

    public int pack(int sort, int rule) {
        if (!isSort(sort) || rule < 0 || rule >= WAYS || stock.restOf(sort) < 1) {
            return refuseAct();
        }
        int bins = copyFilled();
        int to = Packer.choose(filled, bins, told.capacity - told.sizes[sort], rule);
        if (to == NONE && bins >= BINS) {
            return refuseAct();
        }
        stock.remember();
        if (to == NONE) {
            to = bins;
            stock.addBin(0L);
        }
        stock.moveIn(sort, to);
        return to;
    }

    public int put(int sort, int bin) {
        if (!isSort(sort) || !stock.isBin(bin) || stock.restOf(sort) < 1
                || freeIn(bin) < told.sizes[sort]) {
            return refuseAct();
        }
        stock.remember();
        stock.moveIn(sort, bin);
        return freeIn(bin);
    }

    public int take(int sort, int bin) {
        if (!isSort(sort) || !stock.isBin(bin) || Stock.part(stock.row[bin], sort) < 1
                || stock.restOf(sort) >= OF_ONE || stock.restOfAll() >= THINGS) {
            return refuseAct();
        }
        stock.remember();
        stock.moveOut(sort, bin);
        if (stock.row[bin] == 0L) {
            stock.dropBin(bin);
        }
        return stock.bins();
    }

    public int rest(int sort, int many) {
        if (!isSort(sort) || many < 0 || many > OF_ONE
                || stock.restOfAll() - stock.restOf(sort) + many > THINGS) {
            return refuseAct();
        }
        int was = stock.restOf(sort);
        stock.remember();
        stock.row[Stock.REST] += (many - was) * Stock.one(sort);
        return was;
    }

    public int load() {
        if (stock.restOfAll() < 1 || stock.bins() >= BINS) {
            return refuseAct();
        }
        proof.fewestOf(restNow());
        long first = proof.firstBin();
        stock.remember();
        stock.row[Stock.REST] -= first;
        stock.addBin(first);
        return told.weightOfBin(first);
    }

    public int join(int bin, int other) {
        if (!stock.isBin(bin) || !stock.isBin(other) || bin == other
                || freeIn(bin) < told.weightOfBin(stock.row[other])) {
            return refuseAct();
        }
        int free = freeIn(bin) - told.weightOfBin(stock.row[other]);
        stock.remember();
        stock.row[bin] += stock.row[other];
        stock.dropBin(other);
        return free;
    }

    public int undo() {
        return stock.goBack() ? stock.acts : NONE;
    }

    public int topUp(int bin, int sort) throws NoSuchElementException {
        needBin(bin);
        needSortOrNone(sort);
        Lot lot = restNow();
        web.fillGreatest(lot, freeIn(bin), row);
        return sort == NONE ? lot.weightOf(row) : row[sort];
    }

    public int toHold(int many) throws IllegalArgumentException {
        if (many < 1 || many > THINGS) {
            throw new IllegalArgumentException("not 1 to 24 bins");
        }
        Lot lot = restNow();
        // Below this the goods have not even room by their sizes, so no packing can be found there.
        int least = Math.max(Bounds.roundUp(lot.weightOf(lot.many), many), 1);
        for (int capacity = Math.max(least, lot.tallest()); capacity <= GREATEST; capacity++) {
            lot.capacity = capacity;
            if (proof.fewestOf(lot) <= many) {
                return capacity;
            }
        }
        return NONE;
    }

    public int spare(int sort) throws NoSuchElementException {
        needSort(sort);
        Lot lot = restNow();
        int fewest = proof.fewestOf(lot);
        int most = Math.min(OF_ONE, THINGS - lot.things());
        for (int more = 1; more <= most; more++) {
            lot.many[sort]++;
            if (proof.fewestOf(lot) != fewest) {
                return more - 1;
            }
        }
        return Math.max(most, 0);
    }

    public int note(int rule, int bins) {
        if (rule < 0 || rule >= RULES || bins < 0 || bins > THINGS || !stock.addNote(rule, bins)) {
            stock.refused[2]++;
            return NONE;
        }
        return stock.noted;
    }

    public int other(int what) throws NoSuchElementException {
        if (what < 0 || what > 2) {
            throw new NoSuchElementException("no such number of others");
        }
        Lot lot = restNow();
        if (what == 2) {
            return guess.agrees(lot, stock, packer) ? 1 : 0;
        }
        guess.search(lot, stock, packer, false);
        return what == 0 ? guess.fits : guess.first;
    }

    public int look(int what) throws NoSuchElementException {
        if (what != 0 && what != 1) {
            throw new NoSuchElementException("no such number to look at");
        }
        guess.search(restNow(), stock, packer, true);
        if (guess.fits == 0) {
            return what == 0 ? NONE : 0;
        }
        int rule = guess.widest();
        return what == 0 ? rule : guess.unlike(rule);
    }

    public void forget() {
        stock.noted = 0;
    }

    public int odds(int sort, int tenths) throws NoSuchElementException, IllegalArgumentException {
        needSort(sort);
        if (tenths < 0 || tenths > 10) {
            throw new IllegalArgumentException("not 0 to 10 tenths");
        }
        Lot lot = restNow();
        int now = proof.fewestOf(lot);
        int things = Math.min(5, lot.many[sort]);
        int odds = 0;
        int choices = 1;
        for (int gone = 1; gone <= things; gone++) {
            choices = choices * (things - gone + 1) / gone;
            lot.many[sort]--;
            if (proof.fewestOf(lot) < now) {
                odds += choices * power(tenths, gone) * power(10 - tenths, things - gone);
            }
        }
        return odds * power(10, 5 - things);
    }

    public int years(int seed, int n, int rule, int what) throws NoSuchElementException, IllegalArgumentException {
        if (what < 0 || what > 2) {
            throw new NoSuchElementException("no such number of years");
        }
        if (n < 0 || n > YEARS || rule < 0 || rule >= WAYS) {
            throw new IllegalArgumentException("not 0 to 60 things by a rule of 0 to 3");
        }
        int now = copyFilled();
        int bins = now;
        int intoNow = 0;
        int drawn = seed;
        for (int i = 0; i < n && told.kinds > 0; i++) {
            drawn = drawn * 1103515245 + 12345;
            int size = told.sizes[((drawn >>> 16) & 32767) % told.kinds];
            int to = Packer.choose(filled, bins, told.capacity - size, rule);
            if (to == NONE && bins < filled.length) {
                to = bins;
                filled[to] = 0;
                bins++;
            }
            if (to >= 0) {
                filled[to] += size;
                intoNow += to < now ? 1 : 0;
            }
        }
        if (what == 0) {
            return bins;
        }
        return what == 1 ? freeAbove(bins) : intoNow;
    }

    public void image() {
        picture.becomeLike(stock);
        kept = true;
    }

    public boolean restore() {
        if (kept) {
            stock.becomeLike(picture);
        }
        return kept;
    }

    private void tapeInt(int number) {
        for (int shift = 24; shift >= 0 && taped < tape.length; shift -= 8) {
            tape[taped] = (byte) (number >> shift);
            taped++;
        }
    }

    private boolean isSort(int sort) {
        return sort >= 0 && sort < told.kinds && sort < KINDS;
    }

    private void needSort(int sort) {
        if (!isSort(sort)) {
            throw new NoSuchElementException("no such sort");
        }
    }

    private void needSortOrNone(int sort) {
        if (sort != NONE) {
            needSort(sort);
        }
    }

    private void needBin(int bin) {
        if (!stock.isBin(bin)) {
            throw new NoSuchElementException("no such bin");
        }
    }

    private void needRule(int rule) {
        if (rule < 0 || rule >= RULES) {
            throw new NoSuchElementException("no such rule");
        }
    }

    private int refuseAct() {
        stock.refused[1]++;
        return NONE;
    }

    /** A copy that a question may change as it likes, since each one begins with it anew. */
    private Lot restNow() {
        asked.becomeLike(told);
        for (int sort = 0; sort < KINDS; sort++) {
            asked.many[sort] = stock.restOf(sort);
        }
        return asked;
    }

    private int freeIn(int bin) {
        return stock.isBin(bin) ? told.capacity - told.weightOfBin(stock.row[bin]) : 0;
    }

    private int wasteNow() {
        return freeAbove(copyFilled());
    }

    private int copyFilled() {
        int bins = stock.bins();
        for (int bin = 0; bin < bins && bin < filled.length; bin++) {
            filled[bin] = told.weightOfBin(stock.row[bin]);
        }
        return bins;
    }

    private int freeAbove(int bins) {
        int free = 0;
        for (int bin = 0; bin < bins && bin < filled.length; bin++) {
            free += told.capacity - filled[bin];
        }
        return free;
    }

    private int critical(Lot lot) {
        int now = proof.fewestOf(lot);
        int bits = 0;
        for (int sort = 0; sort < lot.kinds; sort++) {
            if (lot.many[sort] > 0) {
                lot.many[sort]--;
                bits |= proof.fewestOf(lot) < now ? 1 << sort : 0;
                lot.many[sort]++;
            }
        }
        return bits;
    }

    /** Of one sort alone a rule that fills bin by bin is never beaten: no tree is needed. */
    private static int apart(Lot lot) {
        int bins = 0;
        for (int sort = 0; sort < lot.kinds; sort++) {
            bins += Bounds.roundUp(lot.many[sort], Lot.cut(lot.capacity, lot.sizes[sort]));
        }
        return bins;
    }

    private static int power(int base, int exponent) {
        int result = 1;
        for (int i = 0; i < exponent; i++) {
            result *= base;
        }
        return result;
    }

    /** Some goods: the sorts' sizes, how many there are of each, and what a bin holds. */
    private static final class Lot {
        int capacity = 30;
        int kinds = 0;
        final int[] sizes = new int[KINDS];
        final int[] many = new int[KINDS];
        final int[] order = new int[KINDS];

        /** A divisor of 0 stands for a sort that is not there. */
        static int cut(int number, int by) {
            return by < 1 ? 0 : number / by;
        }

        void becomeLike(Lot model) {
            capacity = model.capacity;
            kinds = model.kinds;
            System.arraycopy(model.sizes, 0, sizes, 0, KINDS);
            System.arraycopy(model.many, 0, many, 0, KINDS);
            System.arraycopy(model.order, 0, order, 0, KINDS);
        }

        void arrange() {
            for (int sort = 0; sort < kinds; sort++) {
                int at = sort;
                while (at > 0 && sizes[order[at - 1]] < sizes[sort]) {
                    order[at] = order[at - 1];
                    at--;
                }
                order[at] = sort;
            }
        }

        int rankOf(int sort) {
            for (int rank = 0; rank < kinds; rank++) {
                if (order[rank] == sort) {
                    return rank;
                }
            }
            return NONE;
        }

        int things() {
            int things = 0;
            for (int sort = 0; sort < kinds; sort++) {
                things += many[sort];
            }
            return things;
        }

        int tallest() {
            int tallest = 0;
            for (int sort = 0; sort < kinds; sort++) {
                if (many[sort] > 0) {
                    tallest = Math.max(tallest, sizes[sort]);
                }
            }
            return tallest;
        }

        int weightOf(int[] numbers) {
            int weight = 0;
            for (int sort = 0; sort < kinds && sort < numbers.length; sort++) {
                weight += sizes[sort] * numbers[sort];
            }
            return weight;
        }

        int weightOfBin(long numbers) {
            int weight = 0;
            for (int sort = 0; sort < kinds; sort++) {
                weight += sizes[sort] * Stock.part(numbers, sort);
            }
            return weight;
        }
    }

    /** Reads a text as tokens; what may stand next is all that it must know of what stood before. */
    private static final class Reader {
        private static final int AT_CLAUSE = 0;
        private static final int AT_CAPACITY = 1;
        private static final int AT_SIZE = 2;
        private static final int AT_REST = 3;
        private static final int AT_SORT = 4;
        private static final int AT_SORT_OR_END = 5;
        private static final int AT_END = 6;

        final Lot lot = new Lot();
        final long[] row = new long[Stock.ROW];
        int place = NONE;
        private int state = AT_CLAUSE;
        private int clauses = 0;
        private int bins = 0;
        private int things = 0;
        private int size = 0;

        int readText(byte[] text, int n) {
            begin();
            int end = Math.min(n, text.length);
            int at = 0;
            while (at < end) {
                int next = at + 1;
                if (!isBlank(text[at])) {
                    next = Math.max(next, endOfToken(text, at, end));
                    int fault = takeToken(text, at, next);
                    if (fault != 0) {
                        place = at;
                        return fault;
                    }
                }
                at = next;
            }
            if (state != AT_CLAUSE) {
                place = n;
                return 1;
            }
            row[Stock.COUNT] = bins;
            return 0;
        }

        private void begin() {
            lot.capacity = 30;
            lot.kinds = 0;
            for (int i = 0; i < Stock.ROW; i++) {
                row[i] = 0L;
            }
            place = NONE;
            state = AT_CLAUSE;
            clauses = 0;
            bins = 0;
            things = 0;
        }

        private static boolean isBlank(byte sign) {
            return sign == 32 || sign == 10;
        }

        private static boolean isLetter(byte sign) {
            return sign >= 'a' && sign <= 'z';
        }

        private static boolean isDigit(byte sign) {
            return sign >= '0' && sign <= '9';
        }

        private static int endOfToken(byte[] text, int at, int end) {
            int i = at;
            if (isLetter(text[at])) {
                while (i < end && isLetter(text[i])) {
                    i++;
                }
            } else {
                while (i < end && isDigit(text[i])) {
                    i++;
                }
            }
            return i;
        }

        private int takeToken(byte[] text, int at, int next) {
            if (state == AT_CLAUSE) {
                return takeWord(text, at, next);
            }
            if (text[at] == ';' && (state == AT_END || state == AT_SORT_OR_END)) {
                state = AT_CLAUSE;
                clauses++;
                return 0;
            }
            if (state == AT_END || !isDigit(text[at])) {
                return 1;
            }
            if (next - at > 3) {
                return 2;
            }
            return takeNumber(numberOf(text, at, next));
        }

        private int takeWord(byte[] text, int at, int next) {
            if (isWord(text, at, next, "capacity")) {
                state = AT_CAPACITY;
                return clauses > 0 ? 4 : 0;
            }
            if (isWord(text, at, next, "sort")) {
                state = AT_SIZE;
                return lot.kinds >= KINDS ? 2 : 0;
            }
            if (isWord(text, at, next, "bin")) {
                state = AT_SORT;
                bins++;
                return bins > BINS ? 2 : 0;
            }
            return 1;
        }

        private static boolean isWord(byte[] text, int at, int next, String word) {
            if (next - at != word.length()) {
                return false;
            }
            for (int i = 0; i < word.length(); i++) {
                if (text[at + i] != word.charAt(i)) {
                    return false;
                }
            }
            return true;
        }

        private static int numberOf(byte[] text, int at, int next) {
            int number = 0;
            for (int i = at; i < next; i++) {
                number = 10 * number + text[i] - '0';
            }
            return number;
        }

        private int takeNumber(int number) {
            switch (state) {
                case AT_CAPACITY: return takeCapacity(number);
                case AT_SIZE: return takeSize(number);
                case AT_REST: return takeRest(number);
                default: return takeSort(number);
            }
        }

        private int takeCapacity(int number) {
            if (number < 1 || number > GREATEST) {
                return 2;
            }
            lot.capacity = number;
            state = AT_END;
            return 0;
        }

        private int takeSize(int number) {
            if (number < 1 || number > lot.capacity) {
                return 2;
            }
            size = number;
            state = AT_REST;
            return 0;
        }

        private int takeRest(int number) {
            if (number > OF_ONE || things + number > THINGS || lot.kinds >= KINDS) {
                return 2;
            }
            things += number;
            lot.sizes[lot.kinds] = size;
            row[Stock.REST] += number * Stock.one(lot.kinds);
            lot.kinds++;
            state = AT_END;
            return 0;
        }

        private int takeSort(int number) {
            if (number >= KINDS) {
                return 2;
            }
            if (number >= lot.kinds) {
                return 3;
            }
            int bin = bins - 1;
            if (bin < 0 || bin >= BINS || lot.weightOfBin(row[bin]) + lot.sizes[number] > lot.capacity) {
                return 5;
            }
            row[bin] += Stock.one(number);
            state = AT_SORT_OR_END;
            return 0;
        }
    }

    /** All that an image keeps. Numbers of each sort stand seven bits each in one long: a bin has 99 things at most. */
    private static final class Stock {
        static final int REST = BINS;
        static final int COUNT = BINS + 1;
        static final int ROW = BINS + 2;

        final long[] row = new long[ROW];
        final int[] refused = new int[3];
        int acts = 0;
        int noted = 0;
        private final long[] past = new long[ACTS * ROW];
        private final int[] notedRules = new int[NOTES];
        private final int[] notedBins = new int[NOTES];

        static int part(long numbers, int sort) {
            return (int) (numbers >> (7 * sort)) & 127;
        }

        static long one(int sort) {
            return 1L << (7 * sort);
        }

        void becomeLike(Stock model) {
            acts = model.acts;
            noted = model.noted;
            System.arraycopy(model.row, 0, row, 0, ROW);
            System.arraycopy(model.refused, 0, refused, 0, 3);
            System.arraycopy(model.past, 0, past, 0, ACTS * ROW);
            System.arraycopy(model.notedRules, 0, notedRules, 0, NOTES);
            System.arraycopy(model.notedBins, 0, notedBins, 0, NOTES);
        }

        void beginWith(long[] numbers) {
            for (int i = 0; i < ROW && i < numbers.length; i++) {
                row[i] = numbers[i];
            }
            acts = 0;
            noted = 0;
        }

        int bins() {
            return (int) row[COUNT];
        }

        boolean isBin(int bin) {
            return bin >= 0 && bin < BINS && bin < bins();
        }

        int restOf(int sort) {
            return part(row[REST], sort);
        }

        int restOfAll() {
            int all = 0;
            for (int sort = 0; sort < KINDS; sort++) {
                all += restOf(sort);
            }
            return all;
        }

        int inBins(int sort) {
            int all = 0;
            for (int bin = 0; bin < BINS; bin++) {
                all += isBin(bin) ? part(row[bin], sort) : 0;
            }
            return all;
        }

        void addBin(long numbers) {
            int bin = bins();
            if (bin >= 0 && bin < BINS) {
                row[bin] = numbers;
                row[COUNT] = bin + 1;
            }
        }

        void dropBin(int gone) {
            if (isBin(gone)) {
                for (int bin = gone; bin + 1 < BINS; bin++) {
                    row[bin] = row[bin + 1];
                }
                row[BINS - 1] = 0L;
                row[COUNT]--;
            }
        }

        void moveIn(int sort, int bin) {
            if (isBin(bin)) {
                row[bin] += one(sort);
                row[REST] -= one(sort);
            }
        }

        void moveOut(int sort, int bin) {
            if (isBin(bin)) {
                row[bin] -= one(sort);
                row[REST] += one(sort);
            }
        }

        /** Called ahead of each act: what it changes is small enough to be kept whole. */
        void remember() {
            if (acts >= ACTS) {
                System.arraycopy(past, ROW, past, 0, (ACTS - 1) * ROW);
                acts = ACTS - 1;
            }
            System.arraycopy(row, 0, past, acts * ROW, ROW);
            acts++;
        }

        boolean goBack() {
            if (acts < 1 || acts > ACTS) {
                return false;
            }
            acts--;
            System.arraycopy(past, acts * ROW, row, 0, ROW);
            return true;
        }

        boolean addNote(int ruleNumber, int bins) {
            if (noted < 0 || noted >= NOTES) {
                return false;
            }
            notedRules[noted] = ruleNumber;
            notedBins[noted] = bins;
            noted++;
            return true;
        }

        int ruleOfNote(int i) {
            return i >= 0 && i < NOTES ? notedRules[i] : 0;
        }

        int binsOfNote(int i) {
            return i >= 0 && i < NOTES ? notedBins[i] : 0;
        }
    }

    /** Packs all of some goods by a rule; what it found stands until the next time. */
    private static final class Packer {
        final int[] where = new int[THINGS];
        final int[] held = new int[THINGS * KINDS];
        int things = 0;
        int bins = 0;
        private final int[] full = new int[THINGS];

        /** The bin a thing comes into, if it may be filled up to most before; NONE: a new one. */
        static int choose(int[] fullness, int bins, int most, int way) {
            int from = way == 0 ? Math.max(bins - 1, 0) : 0;
            int chosen = NONE;
            for (int bin = from; bin < bins && bin < fullness.length; bin++) {
                if (fullness[bin] <= most
                        && (chosen < 0 || isLiked(fullness[bin], fullness[chosen], way))) {
                    chosen = bin;
                    if (way < 2) {
                        return bin;
                    }
                }
            }
            return chosen;
        }

        private static boolean isLiked(int fullness, int than, int way) {
            return way == 2 && fullness > than || way == 3 && fullness < than;
        }

        int packAll(Lot lot, int ruleNumber) {
            things = 0;
            bins = 0;
            for (int i = 0; i < lot.kinds; i++) {
                int sort = ruleNumber < WAYS ? i : lot.order[i];
                for (int j = 0; j < lot.many[sort]; j++) {
                    packOne(sort, lot.sizes[sort], lot.capacity, ruleNumber % WAYS);
                }
            }
            return bins;
        }

        private void packOne(int sort, int size, int capacity, int way) {
            int to = choose(full, bins, capacity - size, way);
            if (to == NONE && bins < THINGS) {
                to = openBin();
            }
            if (to >= 0 && things < THINGS) {
                full[to] += size;
                held[to * KINDS + sort]++;
                where[things] = to;
                things++;
            }
        }

        /** Bins are emptied as they are opened: most packings need only a few of all there could be. */
        private int openBin() {
            full[bins] = 0;
            for (int sort = 0; sort < KINDS; sort++) {
                held[bins * KINDS + sort] = 0;
            }
            bins++;
            return bins - 1;
        }
    }

    /** What no packing of some goods can do with fewer bins than. */
    private static final class Bounds {
        static int roundUp(int number, int by) {
            return number < 1 || by < 1 ? 0 : (number - 1) / by + 1;
        }

        static int areaOf(Lot lot, int[] many) {
            return roundUp(lot.weightOf(many), lot.capacity);
        }

        static int splitOf(Lot lot, int[] many, int a) {
            int bins = 0;
            int over = 0;
            for (int sort = 0; sort < lot.kinds && sort < many.length; sort++) {
                int size = lot.sizes[sort];
                if (size > lot.capacity - a) {
                    bins += many[sort];
                } else if (2 * size > lot.capacity) {
                    bins += many[sort];
                    over -= many[sort] * (lot.capacity - size);
                } else if (size >= a) {
                    over += many[sort] * size;
                }
            }
            return bins + roundUp(over, lot.capacity);
        }

        static int stepOf(Lot lot, int[] many, int k) {
            int all = 0;
            for (int sort = 0; sort < lot.kinds && sort < many.length; sort++) {
                int steps = Lot.cut((k + 1) * lot.sizes[sort], lot.capacity);
                boolean even = steps * lot.capacity == (k + 1) * lot.sizes[sort];
                all += many[sort] * (even ? k * lot.sizes[sort] : lot.capacity * steps);
            }
            return roundUp(all, k * lot.capacity);
        }

        static int bestSplit(Lot lot, int[] many) {
            int best = 0;
            int most = splitOf(lot, many, 0);
            for (int a = 1; a <= lot.capacity / 2; a++) {
                int value = splitOf(lot, many, a);
                if (value > most) {
                    most = value;
                    best = a;
                }
            }
            return best;
        }

        static int bestStep(Lot lot, int[] many) {
            int best = 1;
            int most = stepOf(lot, many, 1);
            for (int k = 2; k <= STEPS; k++) {
                int value = stepOf(lot, many, k);
                if (value > most) {
                    most = value;
                    best = k;
                }
            }
            return best;
        }

        static int greatestOf(Lot lot, int[] many) {
            int bySplit = splitOf(lot, many, bestSplit(lot, many));
            int byStep = stepOf(lot, many, bestStep(lot, many));
            return Math.max(areaOf(lot, many), Math.max(bySplit, byStep));
        }

        /** Whether the greatest bound is so many or more: a tree needs no more of it, and the first one that is will do. */
        static boolean reaches(Lot lot, int[] many, int bins) {
            if (areaOf(lot, many) >= bins) {
                return true;
            }
            for (int k = 1; k <= STEPS; k++) {
                if (stepOf(lot, many, k) >= bins) {
                    return true;
                }
            }
            for (int a = 0; a <= lot.capacity / 2; a++) {
                if (splitOf(lot, many, a) >= bins) {
                    return true;
                }
            }
            return false;
        }
    }

    /** Patterns of a bin that nothing more fits into, one behind the other, the first ones first. */
    private static final class Patterns {
        /** Far above 5 to the power of 5, the most ways to choose of all sorts but the last one. */
        private static final int TURNS = 100000;

        /** Earlier goods may have had more sorts: what they left behind in the row is none of these goods. */
        static void begin(Lot lot, int[] many, int[] row) {
            for (int sort = 0; sort < row.length; sort++) {
                row[sort] = 0;
            }
            fillFrom(lot, many, row, 0);
        }

        /** The last sort of a maximal pattern is always filled up, so only the sorts ahead of it are counted down. */
        static boolean goOn(Lot lot, int[] many, int[] row) {
            for (int turn = 0; turn < TURNS; turn++) {
                int at = lot.kinds - 2;
                while (at >= 0 && row[lot.order[at]] == 0) {
                    at--;
                }
                if (at < 0) {
                    return false;
                }
                row[lot.order[at]]--;
                if (isMaximal(lot, many, row, fillFrom(lot, many, row, at + 1))) {
                    return true;
                }
            }
            return false;
        }

        private static int fillFrom(Lot lot, int[] many, int[] row, int from) {
            int free = lot.capacity;
            for (int i = 0; i < lot.kinds; i++) {
                int sort = lot.order[i];
                if (i >= from) {
                    row[sort] = Math.min(many[sort], Lot.cut(free, lot.sizes[sort]));
                }
                free -= row[sort] * lot.sizes[sort];
            }
            return free;
        }

        private static boolean isMaximal(Lot lot, int[] many, int[] row, int free) {
            for (int sort = 0; sort < lot.kinds; sort++) {
                if (row[sort] < many[sort] && lot.sizes[sort] <= free) {
                    return false;
                }
            }
            return true;
        }

        static int countMaximal(Lot lot, int[] row, boolean full) {
            begin(lot, lot.many, row);
            int count = 0;
            for (int turn = 0; turn < TURNS; turn++) {
                if (!full || lot.weightOf(row) == lot.capacity) {
                    count++;
                }
                if (!goOn(lot, lot.many, row)) {
                    return count;
                }
            }
            return count;
        }

        static boolean goTo(Lot lot, int[] row, int i) {
            begin(lot, lot.many, row);
            for (int at = 0; at < i; at++) {
                if (!goOn(lot, lot.many, row)) {
                    return false;
                }
            }
            return true;
        }
    }

    /** The tree of bins chosen whole. */
    private static final class Tree {
        private static final int NODES = 60;

        final int[] best = new int[THINGS * KINDS];
        int bins = 0;
        int nodes = 0;
        int closed = 0;
        int found = 0;
        int deepest = 0;
        boolean cut = false;
        private final Packer packer = new Packer();
        private final int[][] left = new int[THINGS + 1][KINDS];
        private final int[][] chosen = new int[THINGS + 1][KINDS];

        int fewestOf(Lot lot) {
            bins = packer.packAll(lot, 5);
            System.arraycopy(packer.held, 0, best, 0, THINGS * KINDS);
            nodes = 0;
            closed = 0;
            found = 0;
            deepest = 0;
            cut = false;
            System.arraycopy(lot.many, 0, left[0], 0, KINDS);
            meet(lot, 0);
            return bins;
        }

        long firstBin() {
            long numbers = 0L;
            for (int sort = 0; sort < KINDS; sort++) {
                numbers += best[sort] * Stock.one(sort);
            }
            return numbers;
        }

        private void meet(Lot lot, int depth) {
            if (depth < 0 || depth >= THINGS) {
                return;
            }
            if (nodes >= NODES) {
                cut = true;
                return;
            }
            nodes++;
            deepest = Math.max(deepest, depth);
            int first = firstLeft(lot, left[depth]);
            if (first < 0) {
                finish(depth);
            } else if (Bounds.reaches(lot, left[depth], bins - depth)) {
                closed++;
            } else {
                branch(lot, depth, first);
            }
        }

        private static int firstLeft(Lot lot, int[] many) {
            for (int i = 0; i < lot.kinds; i++) {
                if (many[lot.order[i]] > 0) {
                    return lot.order[i];
                }
            }
            return NONE;
        }

        private void finish(int depth) {
            if (depth >= bins) {
                return;
            }
            found++;
            bins = depth;
            for (int bin = 0; bin < depth; bin++) {
                System.arraycopy(chosen[bin], 0, best, bin * KINDS, KINDS);
            }
        }

        private void branch(Lot lot, int depth, int first) {
            int[] pattern = chosen[depth];
            Patterns.begin(lot, left[depth], pattern);
            // Each turn meets a node or is cut, so there are never more turns than nodes.
            for (int turn = 0; turn <= NODES && pattern[first] > 0; turn++) {
                for (int sort = 0; sort < KINDS; sort++) {
                    left[depth + 1][sort] = left[depth][sort] - pattern[sort];
                }
                meet(lot, depth + 1);
                if (cut || !Patterns.goOn(lot, left[depth], pattern)) {
                    return;
                }
            }
        }
    }

    /** The net of what is packed so far: ways to each place of each layer, and how far it can go on from there. */
    private static final class Net {
        private final int[][] ways = new int[KINDS + 1][GREATEST + 1];
        private final int[][] reach = new int[KINDS + 1][GREATEST + 1];
        private final int[] layerSort = new int[KINDS];
        private int layers = 0;

        int waysThrough(Lot lot) {
            lay(lot);
            for (int layer = 0; layer <= layers; layer++) {
                for (int place = 0; place <= GREATEST; place++) {
                    ways[layer][place] = 0;
                }
            }
            ways[0][0] = 1;
            for (int layer = 0; layer < layers; layer++) {
                goFrom(lot, layer);
            }
            int paths = 0;
            for (int place = 0; place <= GREATEST; place++) {
                paths += ways[layers][place];
            }
            return paths;
        }

        private void lay(Lot lot) {
            layers = 0;
            for (int i = 0; i < lot.kinds && layers < KINDS; i++) {
                if (lot.many[lot.order[i]] > 0) {
                    layerSort[layers] = lot.order[i];
                    layers++;
                }
            }
            for (int free = 0; free <= GREATEST; free++) {
                reach[layers][free] = 0;
            }
            for (int layer = layers - 1; layer >= 0; layer--) {
                for (int free = 0; free <= GREATEST; free++) {
                    reach[layer][free] = reachOf(lot, layer, free);
                }
            }
        }

        private int reachOf(Lot lot, int layer, int free) {
            int sort = layerSort[layer];
            int most = 0;
            for (int n = 0; n <= lot.many[sort] && n * lot.sizes[sort] <= free; n++) {
                int taken = n * lot.sizes[sort];
                most = Math.max(most, taken + reach[layer + 1][free - taken]);
            }
            return most;
        }

        private void goFrom(Lot lot, int layer) {
            int sort = layerSort[layer];
            for (int place = 0; place <= lot.capacity && place <= GREATEST; place++) {
                int arcs = ways[layer][place] > 0 ? arcsFrom(lot, layer, place) : 0;
                for (int n = 0; n < arcs; n++) {
                    int to = place + n * lot.sizes[sort];
                    if (to <= GREATEST) {
                        ways[layer + 1][to] += ways[layer][place];
                    }
                }
            }
        }

        private int arcsFrom(Lot lot, int layer, int place) {
            int sort = layerSort[layer];
            return Math.min(lot.many[sort], Lot.cut(lot.capacity - place, lot.sizes[sort])) + 1;
        }

        boolean isPoint(int layer, int place, int capacity) {
            return layer >= 0 && layer <= layers && place >= 0 && place <= capacity
                    && place <= GREATEST && ways[layer][place] > 0;
        }

        int highOf(int layer, int place, int capacity) {
            int free = capacity - place;
            return free < 0 || free > GREATEST ? capacity : capacity - reach[layer][free];
        }

        int countPoints(Lot lot, boolean squeezed) {
            int points = 0;
            for (int layer = 0; layer <= layers; layer++) {
                int before = NONE;
                for (int place = 0; place <= lot.capacity; place++) {
                    if (isPoint(layer, place, lot.capacity)) {
                        int height = highOf(layer, place, lot.capacity);
                        points += squeezed && height == before ? 0 : 1;
                        before = height;
                    }
                }
            }
            return points;
        }

        /**
         * Highs never fall along the places, so like ones lie side by side; and points with one high
         * have the same arcs on, so the first one's arcs stand for all.
         */
        int countArcs(Lot lot, boolean squeezed) {
            int arcs = 0;
            for (int layer = 0; layer < layers; layer++) {
                int before = NONE;
                for (int place = 0; place <= lot.capacity; place++) {
                    if (isPoint(layer, place, lot.capacity)) {
                        int height = highOf(layer, place, lot.capacity);
                        arcs += squeezed && height == before ? 0 : arcsFrom(lot, layer, place);
                        before = height;
                    }
                }
            }
            return arcs;
        }

        /** The first one of the greatest sizes together that fit into what is free. */
        void fillGreatest(Lot lot, int free, int[] row) {
            lay(lot);
            for (int sort = 0; sort < row.length; sort++) {
                row[sort] = 0;
            }
            int open = Math.max(0, Math.min(free, GREATEST));
            for (int layer = 0; layer < layers; layer++) {
                int sort = layerSort[layer];
                int size = lot.sizes[sort];
                int n = Math.min(lot.many[sort], Lot.cut(open, size));
                while (n > 0 && n * size + reach[layer + 1][open - n * size] < reach[layer][open]) {
                    n--;
                }
                row[sort] = n;
                open -= n * size;
            }
        }
    }

    /** Which other size would explain all that is noted, and which rule would tell most among them. */
    private static final class Guess {
        int fits = 0;
        int first = NONE;
        private final int[] seen = new int[RULES];

        boolean agrees(Lot lot, Stock stock, Packer packer) {
            for (int i = 0; i < stock.noted; i++) {
                if (packer.packAll(lot, stock.ruleOfNote(i)) != stock.binsOfNote(i)) {
                    return false;
                }
            }
            return true;
        }

        void search(Lot lot, Stock stock, Packer packer, boolean look) {
            fits = 0;
            first = NONE;
            for (int i = 0; i < RULES; i++) {
                seen[i] = 0;
            }
            for (int sort = 0; sort < lot.kinds; sort++) {
                int told = lot.sizes[sort];
                for (int size = 1; size <= lot.capacity; size++) {
                    lot.sizes[sort] = size;
                    lot.arrange();
                    if (size != told && agrees(lot, stock, packer)) {
                        first = fits == 0 ? 100 * sort + size : first;
                        fits++;
                        if (look) {
                            see(lot, packer);
                        }
                    }
                }
                lot.sizes[sort] = told;
            }
        }

        /** Numbers of bins are 24 at most, so one int has a bit for each. */
        private void see(Lot lot, Packer packer) {
            for (int i = 0; i < RULES; i++) {
                seen[i] |= 1 << packer.packAll(lot, i);
            }
        }

        int unlike(int ruleNumber) {
            return ruleNumber >= 0 && ruleNumber < RULES ? Integer.bitCount(seen[ruleNumber]) : 0;
        }

        int widest() {
            int widest = 0;
            for (int i = 1; i < RULES; i++) {
                if (unlike(i) > unlike(widest)) {
                    widest = i;
                }
            }
            return widest;
        }
    }
}
