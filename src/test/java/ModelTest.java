import java.util.ArrayDeque;
import java.util.ArrayList;
import java.util.Arrays;
import java.util.Comparator;
import java.util.Deque;
import java.util.HashMap;
import java.util.HashSet;
import java.util.List;
import java.util.Map;
import java.util.NoSuchElementException;
import java.util.Random;
import java.util.Set;

/** Long runs of drawn calls, each answer held against a slow model that is written straight from the document. */
public final class ModelTest {
    private static final int RUNS = 400;
    /** Trees that are cut, found in twice, or end with just the 60th node. */
    private static final String[] HARD = {"capacity 10;sort 3 4;sort 3 5;sort 4 8;sort 3 7;",
        "capacity 31;sort 12 4;sort 10 4;sort 13 6;", "capacity 21;sort 8 5;sort 8 5;sort 6 9;",
        "capacity 35;sort 14 9;sort 13 7;sort 10 6;sort 11 2;", "capacity 29;sort 3 3;sort 17 6;sort 12 4;"};
    private static int wrong = 0;

    public static void main(String[] args) {
        int runs = args.length > 0 ? Integer.parseInt(args[0]) : RUNS;
        int from = args.length > 1 ? Integer.parseInt(args[1]) : 0;
        for (int run = from; run < from + runs && wrong < 20; run++) {
            oneRun(run);
        }
        System.out.println(wrong == 0 ? "the model and the class agree" : wrong + " answers differ");
        System.exit(wrong == 0 ? 0 : 1);
    }

    private static void oneRun(int run) {
        Random draw = new Random(run);
        BinProver real = new BinProver();
        Model model = new Model();
        List<String> log = new ArrayList<>();
        int calls = 0;
        if (run < HARD.length) {
            calls += tell(real, model, HARD[run], draw, log);
            for (int what = 0; what < 6; what++) {
                check("tree " + what + " of " + HARD[run], real.tree(what), model.tree(what));
            }
            check("note", real.note(0, model.rule(0)), model.note(0, model.rule(0)));
            for (int what = 0; what < 2; what++) {
                check("look " + what + " of " + HARD[run], real.look(what), model.look(what));
            }
            calls += 9;
        }
        while (calls < 480) {
            if (calls == 0 || draw.nextInt(60) == 0) {
                String text = draw.nextInt(4) == 0 ? spoil(draw, text(draw)) : text(draw);
                calls += tell(real, model, text, draw, log);
            }
            Call call = Call.draw(draw, model);
            calls++;
            String want = call.on(model);
            String got = call.on(real);
            log.add(call + " = " + want);
            if (!want.equals(got)) {
                wrong++;
                System.out.println("run " + run + ", call " + calls + ": " + call + " answered " + got + ", due is "
                        + want + " for " + model + "\n  behind " + log.subList(Math.max(0, log.size() - 12), log.size()));
                return;
            }
        }
    }

    private static int tell(BinProver real, Model model, String text, Random draw, List<String> log) {
        byte[] bytes = text.getBytes(java.nio.charset.StandardCharsets.ISO_8859_1);
        int calls = 0;
        int had = model.tape.size();
        for (int at = 0; at < bytes.length; at += 20) {
            int[] n = new int[5];
            for (int i = 0; i < 20; i++) {
                int sign = at + i < bytes.length ? bytes[at + i] & 255 : draw.nextInt(256);
                n[i / 4] = n[i / 4] << 8 | sign;
            }
            int got = real.feed(n[0], n[1], n[2], n[3], n[4]);
            int want = model.feed(n);
            calls++;
            check("feed", got, want);
        }
        int n = had + bytes.length;
        if (n <= model.tape.size()) {
            String got = Call.answer(() -> real.goods(n));
            String want = Call.answer(() -> model.goods(n));
            check("goods(" + n + ") of " + text, got, want);
            log.add("goods " + text.replace('\n', ' ') + " = " + want);
            calls++;
        }
        return calls;
    }

    private static void check(String call, Object got, Object want) {
        if (!got.equals(want)) {
            wrong++;
            System.out.println(call + " answered " + got + ", due is " + want);
        }
    }

    private static String text(Random draw) {
        StringBuilder text = new StringBuilder();
        int capacity = 30;
        if (draw.nextInt(5) > 0) {
            capacity = draw.nextInt(10) == 0 ? 99 : draw.nextInt(3) == 0 ? 1 + draw.nextInt(99) : 8 + draw.nextInt(40);
            text.append("capacity ").append(capacity).append(';');
        }
        int sorts = draw.nextInt(8) == 0 ? draw.nextInt(2) : 1 + draw.nextInt(6);
        int left = 24;
        int style = draw.nextInt(3);
        for (int i = 0; i < sorts; i++) {
            int size = style == 0 ? 1 + draw.nextInt(capacity)
                    : style == 1 ? 1 + draw.nextInt(Math.max(1, capacity * 2 / 3))
                    : Math.max(1, capacity / 5 + draw.nextInt(Math.max(1, capacity * 2 / 5)));
            int rest = Math.min(left, draw.nextInt(3) == 0 ? draw.nextInt(13) : draw.nextInt(6));
            left -= rest;
            text.append(draw.nextInt(4) == 0 ? "\n sort" : "sort ").append(Math.min(size, capacity)).append(' ')
                    .append(rest).append(" ;");
        }
        int bins = sorts == 0 || draw.nextInt(2) == 0 ? 0 : draw.nextInt(6);
        for (int i = 0; i < bins; i++) {
            text.append("bin ").append(draw.nextInt(sorts));
            for (int j = draw.nextInt(3); j > 0; j--) {
                text.append(' ').append(draw.nextInt(sorts));
            }
            text.append(';');
        }
        return text.toString();
    }

    private static String spoil(Random draw, String text) {
        String[] bits = {"capacity 9;", "sort 1 1;", "bin 0;", "bin 5;", "bin 0", "7", "0", "1234", "A", ";", " ", "\n",
            "binx", "sort 3 13;", "sort 100 1;", "sort 0 1;", "bin 6;", "bin;", "sort;", "capacity 0;", "capacity 100;",
            "cap", "\t", String.valueOf((char) 200), "sort 1 0;sort 1 0;sort 1 0;sort 1 0;sort 1 0;sort 1 0;sort 1 0;",
            "bin 0;bin 0;bin 0;bin 0;bin 0;bin 0;bin 0;bin 0;bin 0;bin 0;bin 0;bin 0;", "bin 0 0 0 0 0 0 0 0 0;"};
        StringBuilder spoilt = new StringBuilder(text);
        for (int i = draw.nextInt(3); i >= 0; i--) {
            int at = draw.nextInt(spoilt.length() + 1);
            if (draw.nextInt(3) == 0 && at < spoilt.length()) {
                spoilt.deleteCharAt(at);
            } else if (draw.nextInt(3) == 0) {
                spoilt.append(bits[draw.nextInt(bits.length)]);
            } else {
                spoilt.insert(at, bits[draw.nextInt(bits.length)]);
            }
        }
        return spoilt.toString();
    }

    /** One drawn call, which can be made on the class and on the model. */
    private static final class Call {
        interface Asked {
            Object ask();
        }

        private static final String[] NAMES = {"fault", "count", "sort", "bin", "rule", "into", "guaranteed", "bound",
            "split", "step", "patterns", "pattern", "tree", "best", "net", "high", "pack", "put", "take", "rest", "load",
            "join", "undo", "topUp", "toHold", "spare", "note", "other", "look", "forget", "odds", "years", "image",
            "restore", "goods", "pack", "put", "take", "rest", "load", "join", "tree", "best", "sort", "count", "bin",
            "bin", "count", "pack", "pack", "note"};
        private String name;
        private final int[] a = new int[4];

        static Call draw(Random draw, Model model) {
            Call call = new Call();
            call.name = NAMES[draw.nextInt(NAMES.length)];
            int sort = draw.nextInt(12) == 0 ? draw.nextInt(9) - 2 : draw.nextInt(Math.max(1, model.size.size()));
            int bin = draw.nextInt(12) == 0 ? draw.nextInt(16) - 2 : draw.nextInt(Math.max(1, model.bins.size()));
            int what = draw.nextInt(12) == 0 ? draw.nextInt(20) - 3 : draw.nextInt(7);
            switch (call.name) {
                case "count": call.a[0] = draw.nextInt(15) - 1; break;
                case "sort": call.set(sort, draw.nextInt(6) - 1); break;
                case "bin": case "topUp": call.set(bin, draw.nextInt(3) == 0 ? -1 : sort); break;
                case "rule": call.set(draw.nextInt(10) - 1); break;
                case "into": call.set(draw.nextInt(10) - 1, draw.nextInt(26) - 1); break;
                case "split": call.set(draw.nextInt(model.capacity / 2 + 3) - 1); break;
                case "step": call.set(draw.nextInt(23)); break;
                case "pattern": call.set(draw.nextInt(8) == 0 ? draw.nextInt(300) - 1 : draw.nextInt(8),
                        draw.nextInt(3) == 0 ? -1 : sort); break;
                case "best": call.set(draw.nextInt(9) - 1, sort); break;
                case "high": call.set(draw.nextInt(8) - 1, draw.nextInt(3) == 0 ? 0 : draw.nextInt(model.capacity + 3) - 1);
                    break;
                case "pack": call.set(sort, draw.nextInt(20) == 0 ? draw.nextInt(8) - 2 : draw.nextInt(4)); break;
                case "put": case "take": call.set(sort, bin); break;
                case "rest": call.set(sort, draw.nextInt(15) - 1); break;
                case "join": call.set(bin, draw.nextInt(Math.max(1, model.bins.size()))); break;
                case "toHold": call.set(draw.nextInt(4) == 0 ? draw.nextInt(27) - 1 : 1 + draw.nextInt(8)); break;
                case "spare": call.set(sort); break;
                case "note": drawNote(call, draw, model); break;
                case "odds": call.set(sort, draw.nextInt(13) - 1); break;
                case "years": call.set(draw.nextInt(), draw.nextInt(63) - 1,
                        draw.nextInt(20) == 0 ? draw.nextInt(8) - 2 : draw.nextInt(4), draw.nextInt(4));
                    if (draw.nextInt(10) == 0) {
                        call.a[3] = draw.nextInt(6) - 2;
                    }
                    break;
                case "goods": call.set(draw.nextInt(30) == 0 ? 0 : 700 + draw.nextInt(50)); break;
                default: call.set(what); break;
            }
            if (draw.nextInt(25) == 0) {
                int[] far = {Integer.MIN_VALUE, Integer.MAX_VALUE, -1, 1 << 16, 31, 32, 63, 99, 100, 700};
                call.a[draw.nextInt(4)] = far[draw.nextInt(far.length)];
            }
            return call;
        }

        /** Mostly what a rule really gives, or one less, so that some sizes are left to explain it. */
        private static void drawNote(Call call, Random draw, Model model) {
            int rule = draw.nextInt(9);
            int bins = rule < 8 ? model.rule(rule) - draw.nextInt(2) : 3;
            call.set(rule, draw.nextInt(10) == 0 ? draw.nextInt(28) - 2 : bins);
        }

        private void set(int... values) {
            System.arraycopy(values, 0, a, 0, values.length);
        }

        static String answer(Asked asked) {
            try {
                return String.valueOf(asked.ask());
            } catch (NoSuchElementException | IllegalArgumentException e) {
                return e.getClass().getSimpleName();
            }
        }

        String on(BinProver x) {
            switch (name) {
                case "fault": return answer(() -> x.fault());
                case "count": return answer(() -> x.count(a[0]));
                case "sort": return answer(() -> x.sort(a[0], a[1]));
                case "bin": return answer(() -> x.bin(a[0], a[1]));
                case "rule": return answer(() -> x.rule(a[0]));
                case "into": return answer(() -> x.into(a[0], a[1]));
                case "guaranteed": return answer(() -> x.guaranteed(a[0]));
                case "bound": return answer(() -> x.bound(a[0]));
                case "split": return answer(() -> x.split(a[0]));
                case "step": return answer(() -> x.step(a[0]));
                case "patterns": return answer(() -> x.patterns(a[0]));
                case "pattern": return answer(() -> x.pattern(a[0], a[1]));
                case "tree": return answer(() -> x.tree(a[0]));
                case "best": return answer(() -> x.best(a[0], a[1]));
                case "net": return answer(() -> x.net(a[0]));
                case "high": return answer(() -> x.high(a[0], a[1]));
                case "pack": return answer(() -> x.pack(a[0], a[1]));
                case "put": return answer(() -> x.put(a[0], a[1]));
                case "take": return answer(() -> x.take(a[0], a[1]));
                case "rest": return answer(() -> x.rest(a[0], a[1]));
                case "load": return answer(() -> x.load());
                case "join": return answer(() -> x.join(a[0], a[1]));
                case "undo": return answer(() -> x.undo());
                case "topUp": return answer(() -> x.topUp(a[0], a[1]));
                case "toHold": return answer(() -> x.toHold(a[0]));
                case "spare": return answer(() -> x.spare(a[0]));
                case "note": return answer(() -> x.note(a[0], a[1]));
                case "other": return answer(() -> x.other(a[0]));
                case "look": return answer(() -> x.look(a[0]));
                case "forget": x.forget(); return "";
                case "odds": return answer(() -> x.odds(a[0], a[1]));
                case "years": return answer(() -> x.years(a[0], a[1], a[2], a[3]));
                case "image": x.image(); return "";
                case "restore": return answer(() -> x.restore());
                default: return answer(() -> x.goods(a[0]));
            }
        }

        String on(Model x) {
            switch (name) {
                case "fault": return answer(() -> x.fault);
                case "count": return answer(() -> x.count(a[0]));
                case "sort": return answer(() -> x.sort(a[0], a[1]));
                case "bin": return answer(() -> x.bin(a[0], a[1]));
                case "rule": return answer(() -> x.rule(a[0]));
                case "into": return answer(() -> x.into(a[0], a[1]));
                case "guaranteed": return answer(() -> x.guaranteed(a[0]));
                case "bound": return answer(() -> x.bound(a[0]));
                case "split": return answer(() -> x.split(a[0]));
                case "step": return answer(() -> x.step(a[0]));
                case "patterns": return answer(() -> x.patterns(a[0]));
                case "pattern": return answer(() -> x.pattern(a[0], a[1]));
                case "tree": return answer(() -> x.tree(a[0]));
                case "best": return answer(() -> x.best(a[0], a[1]));
                case "net": return answer(() -> x.net(a[0]));
                case "high": return answer(() -> x.high(a[0], a[1]));
                case "pack": return answer(() -> x.pack(a[0], a[1]));
                case "put": return answer(() -> x.put(a[0], a[1]));
                case "take": return answer(() -> x.take(a[0], a[1]));
                case "rest": return answer(() -> x.rest(a[0], a[1]));
                case "load": return answer(() -> x.load());
                case "join": return answer(() -> x.join(a[0], a[1]));
                case "undo": return answer(() -> x.undo());
                case "topUp": return answer(() -> x.topUp(a[0], a[1]));
                case "toHold": return answer(() -> x.toHold(a[0]));
                case "spare": return answer(() -> x.spare(a[0]));
                case "note": return answer(() -> x.note(a[0], a[1]));
                case "other": return answer(() -> x.other(a[0]));
                case "look": return answer(() -> x.look(a[0]));
                case "forget": x.noted.clear(); return "";
                case "odds": return answer(() -> x.odds(a[0], a[1]));
                case "years": return answer(() -> x.years(a[0], a[1], a[2], a[3]));
                case "image": x.image(); return "";
                case "restore": return answer(() -> x.restore());
                default: return answer(() -> x.goods(a[0]));
            }
        }

        @Override
        public String toString() {
            return name + Arrays.toString(a);
        }
    }

    /** Some goods as plain lists: sizes, numbers, capacity. */
    private static final class Some {
        final int capacity;
        final List<Integer> size;
        final List<Integer> many;

        Some(int capacity, List<Integer> size, List<Integer> many) {
            this.capacity = capacity;
            this.size = size;
            this.many = many;
        }

        Some with(int sort, int more) {
            List<Integer> changed = new ArrayList<>(many);
            changed.set(sort, many.get(sort) + more);
            return new Some(capacity, size, changed);
        }

        Some less(List<Integer> pattern) {
            List<Integer> changed = new ArrayList<>();
            for (int i = 0; i < many.size(); i++) {
                changed.add(many.get(i) - pattern.get(i));
            }
            return new Some(capacity, size, changed);
        }

        List<Integer> order() {
            List<Integer> order = new ArrayList<>();
            for (int i = 0; i < size.size(); i++) {
                order.add(i);
            }
            order.sort(Comparator.comparing((Integer i) -> -size.get(i)).thenComparing(i -> i));
            return order;
        }

        List<Integer> things(boolean ordered) {
            List<Integer> things = new ArrayList<>();
            for (int i = 0; i < size.size(); i++) {
                int sort = ordered ? order().get(i) : i;
                for (int j = 0; j < many.get(sort); j++) {
                    things.add(sort);
                }
            }
            return things;
        }

        int sum(List<Integer> pattern) {
            int sum = 0;
            for (int i = 0; i < size.size(); i++) {
                sum += size.get(i) * pattern.get(i);
            }
            return sum;
        }

        static int up(int a, int b) {
            return (int) Math.ceil((double) a / b);
        }

        int split(int a) {
            int one = 0;
            int two = 0;
            int three = 0;
            int free = 0;
            for (int sort : things(false)) {
                int s = size.get(sort);
                if (s > capacity - a) {
                    one++;
                } else if (2 * s > capacity) {
                    two++;
                    free += capacity - s;
                } else if (s >= a) {
                    three += s;
                }
            }
            return one + two + (three - free > 0 ? up(three - free, capacity) : 0);
        }

        int step(int k) {
            int all = 0;
            for (int sort : things(false)) {
                int s = size.get(sort);
                all += (k + 1) * s % capacity == 0 ? k * s : capacity * ((k + 1) * s / capacity);
            }
            return up(all, k * capacity);
        }

        int area() {
            return up(sum(many), capacity);
        }

        int bound() {
            int bound = area();
            for (int a = 0; a <= capacity / 2; a++) {
                bound = Math.max(bound, split(a));
            }
            for (int k = 1; k <= 20; k++) {
                bound = Math.max(bound, step(k));
            }
            return bound;
        }

        List<List<Integer>> patterns() {
            List<List<Integer>> all = new ArrayList<>();
            spread(new ArrayList<>(), all);
            List<Integer> order = order();
            all.sort((p, q) -> {
                for (int sort : order) {
                    if (!p.get(sort).equals(q.get(sort))) {
                        return q.get(sort) - p.get(sort);
                    }
                }
                return 0;
            });
            return all;
        }

        private void spread(List<Integer> begun, List<List<Integer>> all) {
            int at = begun.size();
            if (at == size.size()) {
                if (sum(begun) <= capacity) {
                    all.add(new ArrayList<>(begun));
                }
                return;
            }
            for (int n = 0; n <= many.get(at) && n * size.get(at) <= capacity; n++) {
                begun.add(n);
                spread(begun, all);
                begun.remove(at);
            }
        }

        List<List<Integer>> maximal() {
            List<List<Integer>> some = new ArrayList<>();
            for (List<Integer> pattern : patterns()) {
                boolean fits = false;
                for (int i = 0; i < size.size(); i++) {
                    fits |= pattern.get(i) < many.get(i) && sum(pattern) + size.get(i) <= capacity;
                }
                if (!fits) {
                    some.add(pattern);
                }
            }
            return some;
        }

        /** The bins by a rule, each a list of things; where tells each thing's bin. */
        List<List<Integer>> byRule(int rule, List<Integer> where) {
            List<List<Integer>> bins = new ArrayList<>();
            for (int thing : things(rule > 3)) {
                int to = choose(bins, thing, rule % 4);
                if (to == bins.size()) {
                    bins.add(new ArrayList<>());
                }
                bins.get(to).add(thing);
                where.add(to);
            }
            return bins;
        }

        int full(List<Integer> bin) {
            return bin.stream().mapToInt(size::get).sum();
        }

        int choose(List<List<Integer>> bins, int thing, int way) {
            List<Integer> fit = new ArrayList<>();
            for (int i = way == 0 ? Math.max(0, bins.size() - 1) : 0; i < bins.size(); i++) {
                if (full(bins.get(i)) + size.get(thing) <= capacity) {
                    fit.add(i);
                }
            }
            if (fit.isEmpty()) {
                return bins.size();
            }
            if (way == 2) {
                fit.sort(Comparator.comparing((Integer i) -> -full(bins.get(i))).thenComparing(i -> i));
            } else if (way == 3) {
                fit.sort(Comparator.comparing((Integer i) -> full(bins.get(i))).thenComparing(i -> i));
            }
            return fit.get(0);
        }

        List<Integer> counted(List<Integer> bin) {
            List<Integer> pattern = new ArrayList<>();
            for (int i = 0; i < size.size(); i++) {
                int sort = i;
                pattern.add((int) bin.stream().filter(t -> t == sort).count());
            }
            return pattern;
        }
    }

    private static final class Proof {
        List<List<Integer>> best = new ArrayList<>();
        int nodes;
        int closed;
        int found;
        int deepest;
        boolean cut;

        Proof(Some goods) {
            for (List<Integer> bin : goods.byRule(5, new ArrayList<>())) {
                best.add(goods.counted(bin));
            }
            meet(goods, new ArrayList<>());
        }

        private void meet(Some left, List<List<Integer>> chosen) {
            if (cut) {
                return;
            }
            if (nodes + 1 == 61) {
                cut = true;
                return;
            }
            nodes++;
            deepest = Math.max(deepest, chosen.size());
            List<Integer> things = left.things(true);
            if (things.isEmpty()) {
                if (chosen.size() < best.size()) {
                    best = new ArrayList<>(chosen);
                    found++;
                }
                return;
            }
            if (chosen.size() + left.bound() >= best.size()) {
                closed++;
                return;
            }
            for (List<Integer> pattern : left.maximal()) {
                if (pattern.get(things.get(0)) > 0) {
                    List<List<Integer>> more = new ArrayList<>(chosen);
                    more.add(pattern);
                    meet(left.less(pattern), more);
                }
            }
        }
    }

    /** The net as nodes and arcs with names of their own. */
    private static final class Web {
        final List<Set<Integer>> points = new ArrayList<>();
        final Set<String> arcs = new HashSet<>();
        final List<Integer> layers = new ArrayList<>();
        final Some goods;

        Web(Some goods) {
            this.goods = goods;
            for (int sort : goods.order()) {
                if (goods.many.get(sort) > 0) {
                    layers.add(sort);
                }
            }
            points.add(new HashSet<>(List.of(0)));
            for (int layer = 0; layer < layers.size(); layer++) {
                Set<Integer> next = new HashSet<>();
                for (int place : points.get(layer)) {
                    for (int n = 0; n <= goods.many.get(layers.get(layer)); n++) {
                        int to = place + n * goods.size.get(layers.get(layer));
                        if (to <= goods.capacity) {
                            next.add(to);
                            arcs.add(layer + " " + place + " " + n + " " + to);
                        }
                    }
                }
                points.add(next);
            }
        }

        int high(int layer, int place) {
            return goods.capacity - come(layer, goods.capacity - place);
        }

        private final Map<Integer, Integer> known = new HashMap<>();

        private int come(int layer, int free) {
            if (layer == layers.size()) {
                return 0;
            }
            Integer key = layer * 1000 + free;
            if (!known.containsKey(key)) {
                int most = 0;
                for (int n = 0; n <= goods.many.get(layers.get(layer)); n++) {
                    int taken = n * goods.size.get(layers.get(layer));
                    if (taken <= free) {
                        most = Math.max(most, taken + come(layer + 1, free - taken));
                    }
                }
                known.put(key, most);
            }
            return known.get(key);
        }

        Set<String> squeezedArcs() {
            Set<String> squeezed = new HashSet<>();
            for (String arc : arcs) {
                String[] a = arc.split(" ");
                int layer = Integer.parseInt(a[0]);
                squeezed.add(layer + " " + high(layer, Integer.parseInt(a[1])) + " " + a[2] + " "
                        + high(layer + 1, Integer.parseInt(a[3])));
            }
            return squeezed;
        }

        int points() {
            return points.stream().mapToInt(Set::size).sum();
        }

        int squeezedPoints() {
            int all = 0;
            for (int layer = 0; layer < points.size(); layer++) {
                Set<Integer> highs = new HashSet<>();
                for (int place : points.get(layer)) {
                    highs.add(high(layer, place));
                }
                all += highs.size();
            }
            return all;
        }

        int paths(Set<String> some, int start) {
            Map<String, Integer> ways = new HashMap<>();
            ways.put("0 " + start, 1);
            for (int layer = 0; layer < layers.size(); layer++) {
                for (String arc : some) {
                    String[] a = arc.split(" ");
                    if (Integer.parseInt(a[0]) == layer) {
                        ways.merge((layer + 1) + " " + a[3], ways.getOrDefault(layer + " " + a[1], 0), Integer::sum);
                    }
                }
            }
            int paths = 0;
            for (Map.Entry<String, Integer> way : ways.entrySet()) {
                paths += way.getKey().startsWith(layers.size() + " ") ? way.getValue() : 0;
            }
            return paths;
        }
    }

    /** The whole object, with nothing shared between states and nothing reused. */
    private static final class Model {
        final List<Integer> tape = new ArrayList<>();
        int fault = -1;
        int capacity = 30;
        List<Integer> size = new ArrayList<>();
        List<Integer> rest = new ArrayList<>();
        List<List<Integer>> bins = new ArrayList<>();
        Deque<Object[]> acts = new ArrayDeque<>();
        List<int[]> noted = new ArrayList<>();
        int[] status = new int[3];
        Object[] image = null;

        @Override
        public String toString() {
            return "capacity " + capacity + " sizes " + size + " rest " + rest + " bins " + bins;
        }

        int feed(int[] n) {
            if (tape.size() + 20 > 700) {
                return -1;
            }
            for (int number : n) {
                for (int i = 3; i >= 0; i--) {
                    tape.add(number >>> 8 * i & 255);
                }
            }
            return tape.size();
        }

        int goods(int n) {
            if (n < 0 || n > tape.size()) {
                throw new IllegalArgumentException();
            }
            Told told = new Told(new ArrayList<>(tape.subList(0, n)));
            tape.clear();
            fault = told.place;
            if (told.fault != 0) {
                status[0]++;
                return told.fault;
            }
            capacity = told.capacity;
            size = told.size;
            rest = told.rest;
            bins = told.bins;
            acts.clear();
            noted.clear();
            image = null;
            return 0;
        }

        Some now() {
            return new Some(capacity, size, rest);
        }

        static int fewest(Some goods) {
            return new Proof(goods).best.size();
        }

        static <T> T none() {
            throw new NoSuchElementException();
        }

        void needSort(int sort) {
            if (sort < 0 || sort >= size.size()) {
                none();
            }
        }

        boolean isBin(int bin) {
            return bin >= 0 && bin < bins.size();
        }

        int all() {
            return rest.stream().mapToInt(i -> i).sum();
        }

        int free(int bin) {
            return capacity - now().full(bins.get(bin));
        }

        int waste() {
            int waste = 0;
            for (int i = 0; i < bins.size(); i++) {
                waste += free(i);
            }
            return waste;
        }

        int count(int what) {
            int[] plain = {capacity, size.size(), all(), bins.size(), waste(), 0, 0, acts.size(), noted.size(), tape.size(),
                status[0], status[1], status[2]};
            if (what == 5) {
                int bits = 0;
                for (int i = 0; i < size.size(); i++) {
                    if (rest.get(i) > 0 && fewest(now().with(i, -1)) < fewest(now())) {
                        bits |= 1 << i;
                    }
                }
                return bits;
            }
            if (what == 6) {
                int sum = 0;
                for (int i = 0; i < size.size(); i++) {
                    sum += fewest(new Some(capacity, List.of(size.get(i)), List.of(rest.get(i))));
                }
                return sum;
            }
            return what < 0 || what >= plain.length ? none() : plain[what];
        }

        int sort(int sort, int what) {
            needSort(sort);
            switch (what) {
                case 0: return size.get(sort);
                case 1: return rest.get(sort);
                case 2: return now().order().indexOf(sort);
                case 3: return (int) bins.stream().flatMap(List::stream).filter(t -> t == sort).count();
                default: return none();
            }
        }

        int bin(int bin, int sort) {
            if (!isBin(bin)) {
                none();
            }
            if (sort == -1) {
                return now().full(bins.get(bin));
            }
            needSort(sort);
            return now().counted(bins.get(bin)).get(sort);
        }

        int rule(int rule) {
            return rule < 0 || rule > 7 ? none() : now().byRule(rule, new ArrayList<>()).size();
        }

        int into(int rule, int i) {
            List<Integer> where = new ArrayList<>();
            if (rule < 0 || rule > 7) {
                none();
            }
            now().byRule(rule, where);
            return i < 0 || i >= where.size() ? none() : where.get(i);
        }

        int guaranteed(int what) {
            switch (what) {
                case 0: return 10 * rule(1) <= 17 * fewest(now()) ? 1 : 0;
                case 1: return 9 * rule(5) <= 11 * fewest(now()) + 6 ? 1 : 0;
                default: return none();
            }
        }

        int bound(int what) {
            int a = 0;
            int k = 1;
            for (int i = 0; i <= capacity / 2; i++) {
                a = now().split(i) > now().split(a) ? i : a;
            }
            for (int i = 1; i <= 20; i++) {
                k = now().step(i) > now().step(k) ? i : k;
            }
            int[] all = {now().area(), now().split(a), a, now().step(k), k, now().bound()};
            return what < 0 || what > 5 ? none() : all[what];
        }

        int split(int a) {
            if (a < 0 || a > capacity / 2) {
                throw new IllegalArgumentException();
            }
            return now().split(a);
        }

        int step(int k) {
            if (k < 1 || k > 20) {
                throw new IllegalArgumentException();
            }
            return now().step(k);
        }

        int patterns(int what) {
            switch (what) {
                case 0: return now().patterns().size();
                case 1: return now().maximal().size();
                case 2: return (int) now().maximal().stream().filter(p -> now().sum(p) == capacity).count();
                default: return none();
            }
        }

        int pattern(int i, int sort) {
            if (sort != -1) {
                needSort(sort);
            }
            List<List<Integer>> some = now().maximal();
            if (i < 0 || i >= some.size()) {
                none();
            }
            return sort == -1 ? now().sum(some.get(i)) : some.get(i).get(sort);
        }

        int tree(int what) {
            Proof p = new Proof(now());
            int[] all = {p.best.size(), p.cut ? 0 : 1, p.nodes, p.closed, p.found, p.deepest};
            return what < 0 || what > 5 ? none() : all[what];
        }

        int best(int i, int sort) {
            needSort(sort);
            Proof p = new Proof(now());
            return i < 0 || i >= p.best.size() ? none() : p.best.get(i).get(sort);
        }

        int net(int what) {
            Web web = new Web(now());
            switch (what) {
                case 0: return web.points();
                case 1: return web.arcs.size();
                case 2: return web.paths(web.arcs, 0);
                case 3: return web.squeezedPoints();
                case 4: return web.squeezedArcs().size();
                case 5: return web.paths(web.squeezedArcs(), web.high(0, 0));
                default: return none();
            }
        }

        int high(int layer, int place) {
            Web web = new Web(now());
            if (layer < 0 || layer >= web.points.size() || !web.points.get(layer).contains(place)) {
                none();
            }
            return web.high(layer, place);
        }

        private int refuse() {
            status[1]++;
            return -1;
        }

        private Object[] copy() {
            List<List<Integer>> kept = new ArrayList<>();
            for (List<Integer> bin : bins) {
                kept.add(new ArrayList<>(bin));
            }
            return new Object[] {new ArrayList<>(rest), kept};
        }

        @SuppressWarnings("unchecked")
        private void become(Object[] copy) {
            rest = new ArrayList<>((List<Integer>) copy[0]);
            bins = new ArrayList<>();
            for (List<Integer> bin : (List<List<Integer>>) copy[1]) {
                bins.add(new ArrayList<>(bin));
            }
        }

        private void act() {
            acts.addLast(copy());
            if (acts.size() > 40) {
                acts.removeFirst();
            }
        }

        private boolean hasRest(int sort) {
            return sort >= 0 && sort < size.size() && rest.get(sort) > 0;
        }

        int pack(int sort, int rule) {
            if (!hasRest(sort) || rule < 0 || rule > 3) {
                return refuse();
            }
            int to = now().choose(bins, sort, rule);
            if (to == 12) {
                return refuse();
            }
            act();
            if (to == bins.size()) {
                bins.add(new ArrayList<>());
            }
            bins.get(to).add(sort);
            rest.set(sort, rest.get(sort) - 1);
            return to;
        }

        int put(int sort, int bin) {
            if (!hasRest(sort) || !isBin(bin) || free(bin) < size.get(sort)) {
                return refuse();
            }
            act();
            bins.get(bin).add(sort);
            rest.set(sort, rest.get(sort) - 1);
            return free(bin);
        }

        int take(int sort, int bin) {
            if (sort < 0 || sort >= size.size() || !isBin(bin) || !bins.get(bin).contains(sort) || rest.get(sort) == 12
                    || all() == 24) {
                return refuse();
            }
            act();
            bins.get(bin).remove((Integer) sort);
            rest.set(sort, rest.get(sort) + 1);
            bins.removeIf(List::isEmpty);
            return bins.size();
        }

        int rest(int sort, int many) {
            if (sort < 0 || sort >= size.size() || many < 0 || many > 12 || all() - rest.get(sort) + many > 24) {
                return refuse();
            }
            act();
            return rest.set(sort, many);
        }

        int load() {
            if (all() == 0 || bins.size() == 12) {
                return refuse();
            }
            List<Integer> first = new Proof(now()).best.get(0);
            act();
            List<Integer> bin = new ArrayList<>();
            for (int i = 0; i < size.size(); i++) {
                for (int j = 0; j < first.get(i); j++) {
                    bin.add(i);
                }
                rest.set(i, rest.get(i) - first.get(i));
            }
            bins.add(bin);
            return now().full(bin);
        }

        int join(int bin, int other) {
            if (!isBin(bin) || !isBin(other) || bin == other || free(bin) < now().full(bins.get(other))) {
                return refuse();
            }
            act();
            List<Integer> into = bins.get(bin);
            into.addAll(bins.remove(other));
            return capacity - now().full(into);
        }

        int undo() {
            if (acts.isEmpty()) {
                return -1;
            }
            become(acts.removeLast());
            return acts.size();
        }

        int topUp(int bin, int sort) {
            if (!isBin(bin)) {
                none();
            }
            if (sort != -1) {
                needSort(sort);
            }
            List<Integer> top = null;
            for (List<Integer> pattern : new Some(Math.max(free(bin), 0), size, rest).patterns()) {
                if (top == null || now().sum(pattern) > now().sum(top)) {
                    top = pattern;
                }
            }
            return sort == -1 ? now().sum(top) : top.get(sort);
        }

        int toHold(int many) {
            if (many < 1 || many > 24) {
                throw new IllegalArgumentException();
            }
            int least = 1;
            for (int i = 0; i < size.size(); i++) {
                least = rest.get(i) > 0 ? Math.max(least, size.get(i)) : least;
            }
            for (int c = least; c <= 99; c++) {
                if (fewest(new Some(c, size, rest)) <= many) {
                    return c;
                }
            }
            return -1;
        }

        int spare(int sort) {
            needSort(sort);
            int more = 0;
            while (more + 1 <= 12 && all() + more + 1 <= 24 && fewest(now().with(sort, more + 1)) == fewest(now())) {
                more++;
            }
            return more;
        }

        int note(int rule, int bins) {
            if (noted.size() == 8 || rule < 0 || rule > 7 || bins < 0 || bins > 24) {
                status[2]++;
                return -1;
            }
            noted.add(new int[] {rule, bins});
            return noted.size();
        }

        private boolean agrees(Some goods) {
            return noted.stream().allMatch(n -> goods.byRule(n[0], new ArrayList<>()).size() == n[1]);
        }

        private Map<Integer, Some> others() {
            Map<Integer, Some> others = new java.util.TreeMap<>();
            for (int sort = 0; sort < size.size(); sort++) {
                for (int z = 1; z <= capacity; z++) {
                    List<Integer> changed = new ArrayList<>(size);
                    changed.set(sort, z);
                    Some goods = new Some(capacity, changed, rest);
                    if (z != size.get(sort) && agrees(goods)) {
                        others.put(100 * sort + z, goods);
                    }
                }
            }
            return others;
        }

        int other(int what) {
            if (what < 0 || what > 2) {
                none();
            }
            Map<Integer, Some> others = others();
            return what == 0 ? others.size() : what == 2 ? agrees(now()) ? 1 : 0
                    : others.isEmpty() ? -1 : others.keySet().iterator().next();
        }

        int look(int what) {
            if (what != 0 && what != 1) {
                none();
            }
            int rule = -1;
            int most = 0;
            Map<Integer, Some> others = others();
            for (int r = 0; r < 8; r++) {
                Set<Integer> numbers = new HashSet<>();
                for (Some goods : others.values()) {
                    numbers.add(goods.byRule(r, new ArrayList<>()).size());
                }
                if (numbers.size() > most) {
                    most = numbers.size();
                    rule = r;
                }
            }
            return what == 0 ? rule : most;
        }

        int odds(int sort, int tenths) {
            needSort(sort);
            if (tenths < 0 || tenths > 10) {
                throw new IllegalArgumentException();
            }
            int odds = 0;
            int now = fewest(now());
            for (int ways = 0; ways < 32; ways++) {
                int weight = 1;
                int gone = 0;
                for (int i = 0; i < 5; i++) {
                    boolean missing = (ways >> i & 1) == 1;
                    weight *= missing ? tenths : 10 - tenths;
                    gone += missing && i < rest.get(sort) ? 1 : 0;
                }
                odds += weight > 0 && fewest(now().with(sort, -gone)) < now ? weight : 0;
            }
            return odds;
        }

        int years(int seed, int n, int rule, int what) {
            if (what < 0 || what > 2) {
                none();
            }
            if (n < 0 || n > 60 || rule < 0 || rule > 3) {
                throw new IllegalArgumentException();
            }
            Object[] kept = copy();
            int before = bins.size();
            int into = 0;
            for (int i = 0; i < n && !size.isEmpty(); i++) {
                seed = seed * 1103515245 + 12345;
                int sort = (seed >> 16 & 0x7fff) % size.size();
                int to = now().choose(bins, sort, rule);
                if (to == bins.size()) {
                    bins.add(new ArrayList<>());
                }
                bins.get(to).add(sort);
                into += to < before ? 1 : 0;
            }
            int[] all = {bins.size(), waste(), into};
            become(kept);
            return all[what];
        }

        void image() {
            image = new Object[] {copy(), new ArrayDeque<>(acts), new ArrayList<>(noted), status.clone()};
        }

        @SuppressWarnings("unchecked")
        boolean restore() {
            if (image == null) {
                return false;
            }
            become((Object[]) image[0]);
            acts = new ArrayDeque<>((Deque<Object[]>) image[1]);
            noted = new ArrayList<>((List<int[]>) image[2]);
            status = ((int[]) image[3]).clone();
            return true;
        }
    }

    /** The text, cut into tokens first and then read by its grammar. */
    private static final class Told {
        int fault = 0;
        int place = -1;
        int capacity = 30;
        final List<Integer> size = new ArrayList<>();
        final List<Integer> rest = new ArrayList<>();
        final List<List<Integer>> bins = new ArrayList<>();
        private final List<String> tokens = new ArrayList<>();
        private final List<Integer> places = new ArrayList<>();
        private int at = 0;

        private static final class Wrong extends RuntimeException {
            private static final long serialVersionUID = 1L;
        }

        Told(List<Integer> bytes) {
            StringBuilder text = new StringBuilder();
            bytes.forEach(b -> text.append((char) (int) b));
            java.util.regex.Matcher m = java.util.regex.Pattern.compile("[a-z]+|[0-9]+|[^ \n]").matcher(text);
            while (m.find()) {
                tokens.add(m.group());
                places.add(m.start());
            }
            tokens.add("");
            places.add(bytes.size());
            try {
                for (int clause = 0; !peek().isEmpty(); clause++) {
                    clause(clause);
                }
            } catch (Wrong e) {
                place = places.get(at);
            }
        }

        private String peek() {
            return tokens.get(at);
        }

        private void wrong(boolean is, int number) {
            if (is) {
                fault = number;
                throw new Wrong();
            }
        }

        private int number(int least, int most) {
            wrong(!peek().matches("[0-9]+"), 1);
            wrong(peek().length() > 3, 2);
            int number = Integer.parseInt(peek());
            wrong(number < least || number > most, 2);
            return number;
        }

        private void clause(int clause) {
            switch (peek()) {
                case "capacity":
                    wrong(clause > 0, 4);
                    at++;
                    capacity = number(1, 99);
                    at++;
                    break;
                case "sort":
                    wrong(size.size() == 6, 2);
                    at++;
                    int s = number(1, capacity);
                    at++;
                    int r = number(0, Math.min(12, 24 - rest.stream().mapToInt(i -> i).sum()));
                    at++;
                    size.add(s);
                    rest.add(r);
                    break;
                case "bin":
                    wrong(bins.size() == 12, 2);
                    at++;
                    bin();
                    break;
                default:
                    wrong(true, 1);
            }
            wrong(!peek().equals(";"), 1);
            at++;
        }

        private void bin() {
            List<Integer> bin = new ArrayList<>();
            do {
                int sort = number(0, 5);
                wrong(sort >= size.size(), 3);
                bin.add(sort);
                wrong(bin.stream().mapToInt(size::get).sum() > capacity, 5);
                at++;
            } while (peek().matches("[0-9]+"));
            bins.add(bin);
        }
    }
}
