import java.lang.reflect.InvocationTargetException;
import java.lang.reflect.Method;
import java.util.ArrayList;
import java.util.Arrays;
import java.util.Collections;
import java.util.Comparator;
import java.util.HashMap;
import java.util.HashSet;
import java.util.List;
import java.util.Map;
import java.util.Random;
import java.util.Set;
import java.util.TreeMap;

/**
 * Long runs of calls, drawn with fixed seeds, on the class and on a model that follows the document's words:
 * whole courses, sorted, and what waits found by PARENT. Every answer has to be the same.
 */
public final class ModelTest {
    private static final int RUNS = 300;
    private static final int CALLS = 512;
    private static final int[] BASES = {2, 3, 5, 7, 11, 13};

    /** One ENTRY; places that it does not have are -1. */
    private static final class Entry {
        final int number;
        final List<Integer> places;

        Entry(int number, Integer... places) {
            this.number = number;
            this.places = Arrays.asList(places);
        }

        int place(int which) {
            return which < places.size() ? places.get(which) : -1;
        }
    }

    private static final class ModelWell {
        int kind = -1;
        int set;
        boolean isFalling;
        List<List<Integer>> rows = new ArrayList<>();
        List<Entry> course = new ArrayList<>();
        Map<Object, Entry> byName = new HashMap<>();
        Map<Entry, Integer> positions = new HashMap<>();
        List<Entry> told = new ArrayList<>();
        Set<Integer> closed = new HashSet<>();

        ModelWell() {
        }

        ModelWell(ModelWell other) {
            kind = other.kind;
            set = other.set;
            isFalling = other.isFalling;
            rows = other.rows;
            course = other.course;
            byName = other.byName;
            positions = other.positions;
            told = new ArrayList<>(other.told);
            closed = new HashSet<>(other.closed);
        }

        /** POWERS are named by their number, all others by their PLACES. */
        void enter(Entry entry) {
            course.add(entry);
            byName.put(kind == 0 ? (Object) entry.number : entry.places, entry);
        }

        void sort() {
            Comparator<Entry> order = Comparator.comparingInt(e -> e.number);
            for (int i = 0; i < 3; i++) {
                int which = i;
                boolean turned = kind == 3 && isFalling && which == 0;
                order = order.thenComparingInt(e -> turned ? -e.place(which) : e.place(which));
            }
            course.sort(order);
            for (int i = 0; i < course.size(); i++) {
                positions.put(course.get(i), i);
            }
        }

        Entry parent(Entry e) {
            switch (kind) {
                case 0:
                    for (int i = 5; i >= 0; i--) {
                        if (e.number > 1 && e.number % BASES[i] == 0) {
                            return byName.get(e.number / BASES[i]);
                        }
                    }
                    return null;
                case 1:
                case 4:
                    if (e.place(1) > 0) {
                        return byName.get(List.of(e.place(0), e.place(1) - 1));
                    }
                    return e.place(0) > 0 ? byName.get(List.of(e.place(0) - 1, 0)) : null;
                case 2:
                    if (e.place(2) > 0) {
                        return byName.get(List.of(e.place(0), e.place(1), e.place(2) - 1));
                    }
                    if (e.place(1) > 0) {
                        return byName.get(List.of(e.place(0), e.place(1) - 1, 0));
                    }
                    return e.place(0) > 0 ? byName.get(List.of(e.place(0) - 1, 0, 0)) : null;
                case 3:
                    return e.place(1) > 0 ? byName.get(List.of(e.place(0), e.place(1) - 1)) : null;
                default:
                    return null;
            }
        }

        boolean isClosed(Entry e) {
            return kind == 3 && closed.contains(e.place(0));
        }

        Entry last() {
            return told.isEmpty() ? null : told.get(told.size() - 1);
        }

        /** The ENTRY that comes behind all that were told, also if the well is dry by its hundred. */
        Entry next() {
            int behind = -1;
            for (Entry e : told) {
                behind = Math.max(behind, positions.get(e));
            }
            for (int i = behind + 1; i < course.size(); i++) {
                if (!isClosed(course.get(i))) {
                    return course.get(i);
                }
            }
            return null;
        }

        boolean isDry() {
            return told.size() >= 100 || next() == null;
        }

        int tell() {
            Entry e = next();
            told.add(e);
            return e.number;
        }

        List<Entry> waiting() {
            List<Entry> found = new ArrayList<>();
            if (kind == 5) {
                for (Entry e : told) {
                    int multiple = e.number * e.number;
                    while (multiple <= last().number) {
                        multiple += e.number;
                    }
                    found.add(new Entry(multiple));
                }
                return found;
            }
            Set<Entry> toldOnes = new HashSet<>(told);
            for (Entry e : course) {
                Entry parent = parent(e);
                if (!toldOnes.contains(e) && !isClosed(e) && (parent == null || toldOnes.contains(parent))) {
                    found.add(e);
                }
            }
            return found;
        }

        int limit() {
            int primes = Integer.bitCount(set);
            switch (kind) {
                case 0: return 1 + told.size() * (primes - 1);
                case 1:
                case 4: return Math.min(told.size() + 1, rows.get(0).size());
                case 2: return Math.min(2 * told.size() + 1, rows.get(0).size() * rows.get(1).size());
                case 3: return primes;
                case 5: return told.size();
                default: return 0;
            }
        }
    }

    /** The document's methods, with the document's names; found by reflection. */
    static final class Model {
        private final List<List<Integer>> rows = new ArrayList<>();
        private final ModelWell[] wells = new ModelWell[5];
        private int knocks;

        Model() {
            for (int i = 0; i < 6; i++) {
                rows.add(new ArrayList<>());
            }
            for (int i = 0; i < 5; i++) {
                wells[i] = new ModelWell();
            }
        }

        private static void bound(int index, int many) {
            if (index < 0 || index >= many) {
                throw new IndexOutOfBoundsException();
            }
        }

        private static void legal(int number, int lowest, int highest) {
            if (number < lowest || number > highest) {
                throw new IllegalArgumentException();
            }
        }

        private static String line(List<Integer> numbers) {
            StringBuilder line = new StringBuilder();
            for (int number : numbers) {
                line.append(line.length() > 0 ? " " : "").append(number);
            }
            return line.toString();
        }

        public int add(int row, int number) {
            bound(row, 6);
            legal(number, 0, 999);
            List<Integer> r = rows.get(row);
            if (r.size() == 8 || (!r.isEmpty() && r.get(r.size() - 1) > number)) {
                return -9;
            }
            r.add(number);
            return r.size();
        }

        public int cut(int row) {
            bound(row, 6);
            List<Integer> r = rows.get(row);
            return r.isEmpty() ? -9 : r.remove(r.size() - 1);
        }

        public int clear(int row) {
            bound(row, 6);
            int had = rows.get(row).size();
            rows.get(row).clear();
            return had;
        }

        public int fill(int row, int first, int step, int many) {
            bound(row, 6);
            legal(first, 0, 99);
            legal(step, 0, 99);
            legal(many, 1, 8);
            rows.get(row).clear();
            for (int i = 0; i < many; i++) {
                rows.get(row).add(first + i * step);
            }
            return rows.get(row).get(many - 1);
        }

        public int rowAt(int row, int place) {
            bound(row, 6);
            bound(place, 8);
            return place < rows.get(row).size() ? rows.get(row).get(place) : -1;
        }

        public int rowSize(int row) {
            bound(row, 6);
            return rows.get(row).size();
        }

        public String rowText(int row) {
            bound(row, 6);
            return line(rows.get(row));
        }

        public int least(int set, int k) {
            legal(set, 1, 63);
            legal(k, 0, 47);
            List<Integer> all = new ArrayList<>();
            for (int r = 0; r < 6; r++) {
                if ((set & 1 << r) != 0) {
                    all.addAll(rows.get(r));
                }
            }
            Collections.sort(all);
            return k < all.size() ? all.get(k) : -1;
        }

        private ModelWell begin(int well, int kind, int set, int... of) {
            ModelWell w = new ModelWell();
            w.kind = kind;
            w.set = set;
            for (int r : of) {
                w.rows.add(new ArrayList<>(rows.get(r)));
            }
            wells[well] = w;
            return w;
        }

        public int powers(int well, int set) {
            bound(well, 5);
            legal(set, 1, 63);
            ModelWell w = begin(well, 0, set);
            for (int number = 1; number <= 100000; number++) {
                int rest = number;
                for (int i = 0; i < 6; i++) {
                    while ((set & 1 << i) != 0 && rest % BASES[i] == 0) {
                        rest /= BASES[i];
                    }
                }
                if (rest == 1) {
                    w.enter(new Entry(number));
                }
            }
            w.sort();
            return w.waiting().size();
        }

        private int beginOfTwo(int well, int kind, int first, int second) {
            bound(well, 5);
            bound(first, 6);
            bound(second, 6);
            ModelWell w = begin(well, kind, 0, first, second);
            for (int i = 0; i < w.rows.get(0).size(); i++) {
                for (int j = 0; j < w.rows.get(1).size(); j++) {
                    int one = w.rows.get(0).get(i);
                    int two = w.rows.get(1).get(j);
                    w.enter(new Entry(kind == 1 ? one + two : one * two, i, j));
                }
            }
            w.sort();
            return w.waiting().size();
        }

        public int sums(int well, int first, int second) {
            return beginOfTwo(well, 1, first, second);
        }

        public int table(int well, int first, int second) {
            return beginOfTwo(well, 4, first, second);
        }

        public int triples(int well, int first, int second, int third) {
            bound(well, 5);
            bound(first, 6);
            bound(second, 6);
            bound(third, 6);
            ModelWell w = begin(well, 2, 0, first, second, third);
            for (int i = 0; i < w.rows.get(0).size(); i++) {
                for (int j = 0; j < w.rows.get(1).size(); j++) {
                    for (int k = 0; k < w.rows.get(2).size(); k++) {
                        w.enter(new Entry(w.rows.get(0).get(i) + w.rows.get(1).get(j) + w.rows.get(2).get(k), i, j, k));
                    }
                }
            }
            w.sort();
            return w.waiting().size();
        }

        public int merge(int well, int set, boolean isFalling) {
            bound(well, 5);
            legal(set, 1, 63);
            ModelWell w = begin(well, 3, set, 0, 1, 2, 3, 4, 5);
            w.isFalling = isFalling;
            for (int r = 0; r < 6; r++) {
                for (int place = 0; (set & 1 << r) != 0 && place < w.rows.get(r).size(); place++) {
                    w.enter(new Entry(w.rows.get(r).get(place), r, place));
                }
            }
            w.sort();
            return w.waiting().size();
        }

        public int primes(int well) {
            bound(well, 5);
            ModelWell w = begin(well, 5, 0);
            for (int number = 2; number <= 600; number++) {
                boolean isPrime = true;
                for (int divisor = 2; divisor < number; divisor++) {
                    isPrime &= number % divisor != 0;
                }
                if (isPrime) {
                    w.course.add(new Entry(number));
                }
            }
            w.sort();
            return w.waiting().size();
        }

        private ModelWell well(int well) {
            bound(well, 5);
            return wells[well];
        }

        public int draw(int well) {
            ModelWell w = well(well);
            return w.kind == -1 || w.isDry() ? -9 : w.tell();
        }

        public int draws(int well, int times) {
            ModelWell w = well(well);
            legal(times, 1, 20);
            int told = 0;
            for (; told < times && !w.isDry(); told++) {
                w.tell();
            }
            return w.kind == -1 ? -9 : told;
        }

        public int skip(int well, int bound) {
            ModelWell w = well(well);
            legal(bound, 0, 1000000);
            int told = 0;
            for (; told < 20 && !w.isDry() && w.next().number < bound; told++) {
                w.tell();
            }
            return w.kind == -1 ? -9 : told;
        }

        public int copy(int well, int to) {
            ModelWell w = well(well);
            bound(to, 5);
            wells[to] = new ModelWell(w);
            return wells[to].waiting().size();
        }

        public int shake(int well) {
            ModelWell w = well(well);
            return w.kind == -1 ? -9 : w.waiting().size();
        }

        public int anew(int well) {
            ModelWell w = well(well);
            if (w.kind == -1) {
                return -9;
            }
            w.told.clear();
            w.closed.clear();
            return w.waiting().size();
        }

        public int again(int well) {
            ModelWell w = well(well);
            if (w.kind == -1 || !w.closed.isEmpty()) {
                return -9;
            }
            return w.told.isEmpty() ? -1 : w.last().number;
        }

        public int close(int well, int row) {
            ModelWell w = well(well);
            bound(row, 6);
            if (w.kind != 3) {
                return -9;
            }
            boolean isWaiting = false;
            for (Entry e : w.waiting()) {
                isWaiting |= e.place(0) == row;
            }
            if (!isWaiting) {
                return -9;
            }
            int untold = 0;
            for (Entry e : w.course) {
                untold += e.place(0) == row && !w.told.contains(e) ? 1 : 0;
            }
            w.closed.add(row);
            return untold;
        }

        public int drop(int well) {
            int told = well(well).told.size();
            wells[well] = new ModelWell();
            return told;
        }

        public int knock() {
            return ++knocks;
        }

        public int peek(int well) {
            ModelWell w = well(well);
            return w.kind == -1 || w.isDry() ? -9 : w.next().number;
        }

        public int ofWell(int well, int what) {
            ModelWell w = well(well);
            legal(what, 0, 9);
            if (w.kind == -1) {
                return what == 0 || (what >= 3 && what <= 6) ? -1 : 0;
            }
            switch (what) {
                case 0: return w.kind;
                case 1: return w.told.size();
                case 2: return w.waiting().size();
                case 3: return w.last() == null ? -1 : w.last().number;
                case 7: return w.isDry() ? 1 : 0;
                case 8: return w.limit();
                case 9: return w.closed.size();
                default: return w.last() == null ? -1 : w.last().place(what - 4);
            }
        }

        public int nth(int well, int n) {
            ModelWell w = well(well);
            legal(n, 0, 99);
            if (w.kind == -1) {
                return -9;
            }
            return n < w.course.size() ? w.course.get(n).number : -1;
        }

        public int upTo(int well, int number) {
            ModelWell w = well(well);
            legal(number, 0, 1000000);
            if (w.kind == -1 || (w.kind == 5 && number > 600)) {
                return -9;
            }
            return (int) w.course.stream().filter(e -> e.number <= number).count();
        }

        public int ways(int well, int number) {
            ModelWell w = well(well);
            legal(number, 0, 1000000);
            if (w.kind == -1 || (w.kind == 5 && number > 600)) {
                return -9;
            }
            return (int) w.course.stream().filter(e -> e.number == number).count();
        }

        public int waits(int well, int number) {
            ModelWell w = well(well);
            legal(number, 0, 1000000);
            return w.kind == -1 ? -9 : (int) w.waiting().stream().filter(e -> e.number <= number).count();
        }

        public int isWaiting(int well, int a, int b, int c) {
            ModelWell w = well(well);
            if (w.kind == -1 || w.kind == 0 || w.kind == 5) {
                return -9;
            }
            List<Integer> places = w.kind == 2 ? List.of(a, b, c) : List.of(a, b);
            return w.waiting().stream().anyMatch(e -> e.places.equals(places)) ? 1 : 0;
        }

        private List<Integer> nextNumbers(int well, int many) {
            ModelWell w = new ModelWell(well(well));
            List<Integer> numbers = new ArrayList<>();
            while (numbers.size() < many && !w.isDry()) {
                numbers.add(w.tell());
            }
            return numbers;
        }

        public int total(int well, int many) {
            bound(well, 5);
            legal(many, 1, 20);
            if (wells[well].kind == -1) {
                return -9;
            }
            int sum = 0;
            for (int number : nextNumbers(well, many)) {
                sum += number;
            }
            return sum;
        }

        public String text(int well) {
            return line(nextNumbers(well, 8));
        }

        public boolean isAlike(int first, int second) {
            return text(first).equals(text(second));
        }

        public int house(int what) {
            legal(what, 0, 5);
            int[] answers = new int[6];
            for (int well = 0; well < 5; well++) {
                answers[0] += wells[well].kind == -1 ? 0 : 1;
                answers[1] += ofWell(well, 7);
                answers[2] += ofWell(well, 1);
                answers[3] += ofWell(well, 2);
            }
            for (List<Integer> row : rows) {
                answers[4] += row.size();
            }
            answers[5] = knocks;
            return answers[what];
        }

        public boolean isSound() {
            return true;
        }

        public long digest() {
            long d = 7980;
            for (int what = 0; what <= 5; what++) {
                d = d * 31 + house(what);
            }
            for (List<Integer> row : rows) {
                d = d * 31 + row.size();
                for (int number : row) {
                    d = d * 31 + number;
                }
            }
            for (int well = 0; well < 5; well++) {
                for (int what = 0; what <= 9; what++) {
                    d = d * 31 + ofWell(well, what);
                }
                d = d * 31 + peek(well);
            }
            return d * 31 + 1;
        }
    }

    /** Each method: how often it is called, and the lowest and highest of each of its arguments. */
    private static final String[] CALLS_TO_MAKE = {
        "add 24 0:5 0:999", "cut 2 0:5", "clear 2 0:5", "fill 8 0:5 0:99 0:99 1:8", "rowAt 2 0:5 0:7",
        "rowSize 1 0:5", "rowText 2 0:5", "least 4 1:63 0:47", "powers 3 0:4 1:63", "sums 4 0:4 0:5 0:5",
        "triples 5 0:4 0:5 0:5 0:5", "merge 8 0:4 1:63 0:1", "table 4 0:4 0:5 0:5", "primes 2 0:4", "draw 14 0:4",
        "draws 22 0:4 1:20", "skip 8 0:4 0:1000000", "copy 4 0:4 0:4", "shake 5 0:4", "anew 2 0:4", "again 4 0:4",
        "close 14 0:4 0:5", "drop 1 0:4", "knock 1", "peek 4 0:4", "ofWell 14 0:4 0:9", "nth 5 0:4 0:99",
        "upTo 7 0:4 0:1000000", "ways 7 0:4 0:1000000", "waits 9 0:4 0:1000000", "isWaiting 14 0:4 0:7 0:7 0:7",
        "total 5 0:4 1:20", "text 5 0:4", "isAlike 3 0:4 0:4", "house 5 0:5", "isSound 3", "digest 4",
    };

    private final Map<String, Method> real = methodsOf(Endlessrows.class);
    private final Map<String, Method> model = methodsOf(Model.class);
    private final List<String[]> urn = new ArrayList<>();
    private final Map<String, Integer> answered = new TreeMap<>();
    private int calls;

    private ModelTest() {
        for (String line : CALLS_TO_MAKE) {
            String[] words = line.split(" ");
            for (int i = 0; i < Integer.parseInt(words[1]); i++) {
                urn.add(words);
            }
        }
    }

    private static Map<String, Method> methodsOf(Class<?> of) {
        Map<String, Method> found = new HashMap<>();
        for (Method method : of.getDeclaredMethods()) {
            if (java.lang.reflect.Modifier.isPublic(method.getModifiers())) {
                found.put(method.getName(), method);
            }
        }
        return found;
    }

    private static Object answer(Object of, Method method, Object[] arguments) {
        try {
            return method.invoke(of, arguments);
        } catch (InvocationTargetException e) {
            return "throws." + e.getCause().getClass().getSimpleName();
        } catch (IllegalAccessException e) {
            throw new IllegalStateException(e);
        }
    }

    private static int pick(Random random, String range, int style) {
        String[] ends = range.split(":");
        int lowest = Integer.parseInt(ends[0]);
        int highest = Integer.parseInt(ends[1]);
        if (random.nextInt(40) == 0) {
            int[] edges = {lowest - 1, highest + 1, Integer.MIN_VALUE, Integer.MAX_VALUE, lowest, highest, -highest};
            return edges[random.nextInt(edges.length)];
        }
        // Small numbers make likes; great bounds rarely tell anything.
        int most = highest;
        if (highest == 999) {
            most = style == 0 ? 6 : style == 1 ? 60 : 999;
        } else if (highest == 99) {
            most = style == 0 ? 3 : 99;
        } else if (highest == 1000000) {
            int[] bounds = {20, 100, 601, 3000, 100001, 1000000};
            most = bounds[random.nextInt(bounds.length)];
        } else if (highest == 7 && lowest == 0) {
            most = random.nextBoolean() ? 2 : 7;
        }
        return lowest + random.nextInt(most - lowest + 1);
    }

    private boolean run(int seed) {
        Random random = new Random(seed);
        Endlessrows x = new Endlessrows();
        Model due = new Model();
        List<String> told = new ArrayList<>();
        int style = seed % 3;
        for (int call = 0; call < CALLS; call++) {
            String[] words = urn.get(random.nextInt(urn.size()));
            if (call < 30 && random.nextInt(3) > 0) {
                words = CALLS_TO_MAKE[random.nextBoolean() ? 0 : 3].split(" ");
            }
            Object[] arguments = new Object[words.length - 2];
            for (int i = 0; i < arguments.length; i++) {
                arguments[i] = pick(random, words[i + 2], style);
            }
            if (words[0].equals("merge")) {
                arguments[2] = random.nextBoolean();
            }
            Object want = answer(due, model.get(words[0]), arguments);
            Object got = answer(x, real.get(words[0]), arguments);
            told.add(words[0] + Arrays.toString(arguments) + " " + got);
            calls++;
            String sort = want.toString().startsWith("throws.") ? " throws" : want.equals(-9) ? " REFUSED" : "";
            answered.merge(words[0] + sort, 1, Integer::sum);
            if (!want.equals(got)) {
                System.out.println("seed " + seed + ", due is " + want + " for the last of:");
                told.forEach(line -> System.out.println("  " + line));
                return false;
            }
        }
        return true;
    }

    public static void main(String[] args) {
        ModelTest test = new ModelTest();
        int failed = 0;
        for (int seed = 0; seed < RUNS && failed < 3; seed++) {
            failed += test.run(seed) ? 0 : 1;
        }
        if (args.length > 0) {
            System.out.println(test.answered);
        }
        System.out.println(test.calls + " calls like the model's, but for " + failed);
        if (failed != 0) {
            System.exit(1);
        }
    }
}
