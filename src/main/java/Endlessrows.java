/** Six told rows of numbers, and five wells that tell courses of numbers, the least first. */
public final class Endlessrows {
    private static final int NONE = -1;
    private static final int REFUSED = -9;

    private static final int ROWS = 6;
    private static final int ROW_LENGTH = 8;
    private static final int WELLS = 5;
    private static final int GREATEST_SET = 63;
    private static final int GREATEST_NUMBER = 999;
    private static final int GREATEST_BOUND = 1000000;
    private static final int GREATEST_POWER = 100000;
    private static final int GREATEST_PRIME = 600;
    // No entry of any course is as great as this: 999 times 999 is the greatest.
    private static final int ABOVE_ALL = 1000000;
    private static final int TOLD_AT_MOST = 100;
    private static final int TOLD_AT_ONCE = 20;
    private static final int TEXT_NUMBERS = 8;
    private static final int WELL_ANSWERS = 10;
    private static final int HOUSE_ANSWERS = 6;

    private static final int POWERS = 0;
    private static final int SUMS = 1;
    private static final int TRIPLES = 2;
    private static final int MERGED = 3;
    private static final int TABLE = 4;
    private static final int PRIMES = 5;

    private static final int[] BASES = {2, 3, 5, 7, 11, 13};

    private final Row[] rows = new Row[ROWS];
    private final Row zero = new Row();
    private final Well[] wells = new Well[WELLS];
    // Questions are tried out in these two, so that no well of the face is changed by being asked.
    private final Well trial = new Well();
    private final Well otherTrial = new Well();
    private int knocks;

    public Endlessrows() {
        for (int row = 0; row < rows.length; row++) {
            rows[row] = new Row();
        }
        for (int well = 0; well < wells.length; well++) {
            wells[well] = new Well();
        }
        zero.append(0);
    }

    // ---- rows

    public int add(int row, int number) throws IndexOutOfBoundsException, IllegalArgumentException {
        Row asked = findRow(row);
        requireWithin(number, 0, GREATEST_NUMBER);
        return asked.append(number) ? asked.count : REFUSED;
    }

    public int cut(int row) throws IndexOutOfBoundsException {
        Row asked = findRow(row);
        if (asked.count == 0) {
            return REFUSED;
        }
        return asked.removeLast();
    }

    public int clear(int row) throws IndexOutOfBoundsException {
        Row asked = findRow(row);
        int had = asked.count;
        asked.count = 0;
        return had;
    }

    public int fill(int row, int first, int step, int many)
            throws IndexOutOfBoundsException, IllegalArgumentException {
        Row asked = findRow(row);
        requireWithin(first, 0, 99);
        requireWithin(step, 0, 99);
        requireWithin(many, 1, ROW_LENGTH);
        asked.count = 0;
        for (int place = 0; place < many; place++) {
            asked.append(first + place * step);
        }
        return first + (many - 1) * step;
    }

    public int rowAt(int row, int place) throws IndexOutOfBoundsException {
        Row asked = findRow(row);
        requirePlace(place, ROW_LENGTH);
        return asked.numberAt(place);
    }

    public int rowSize(int row) throws IndexOutOfBoundsException {
        return findRow(row).count;
    }

    public String rowText(int row) throws IndexOutOfBoundsException {
        Row asked = findRow(row);
        StringBuilder line = new StringBuilder();
        for (int place = 0; place < asked.count; place++) {
            appendNumber(line, asked.numberAt(place));
        }
        return line.toString();
    }

    public int least(int set, int k) throws IllegalArgumentException {
        requireWithin(set, 1, GREATEST_SET);
        requireWithin(k, 0, ROWS * ROW_LENGTH - 1);
        trial.beginMerged(rows, set, false);
        return trial.numberBehind(k);
    }

    // ---- wells that begin

    public int powers(int well, int set) throws IndexOutOfBoundsException, IllegalArgumentException {
        Well asked = findWell(well);
        requireWithin(set, 1, GREATEST_SET);
        asked.begin(POWERS, set, false);
        return asked.queue.size;
    }

    public int sums(int well, int first, int second) throws IndexOutOfBoundsException {
        Well asked = findWell(well);
        asked.beginGrid(SUMS, findRow(first), findRow(second), zero);
        return asked.queue.size;
    }

    public int triples(int well, int first, int second, int third) throws IndexOutOfBoundsException {
        Well asked = findWell(well);
        asked.beginGrid(TRIPLES, findRow(first), findRow(second), findRow(third));
        return asked.queue.size;
    }

    public int merge(int well, int set, boolean isFalling)
            throws IndexOutOfBoundsException, IllegalArgumentException {
        Well asked = findWell(well);
        requireWithin(set, 1, GREATEST_SET);
        asked.beginMerged(rows, set, isFalling);
        return asked.queue.size;
    }

    public int table(int well, int first, int second) throws IndexOutOfBoundsException {
        Well asked = findWell(well);
        asked.beginGrid(TABLE, findRow(first), findRow(second), zero);
        return asked.queue.size;
    }

    public int primes(int well) throws IndexOutOfBoundsException {
        Well asked = findWell(well);
        asked.begin(PRIMES, 0, false);
        return asked.queue.size;
    }

    // ---- what is done with wells

    public int draw(int well) throws IndexOutOfBoundsException {
        Well asked = findWell(well);
        if (asked.isDry()) {
            return REFUSED;
        }
        return asked.tell();
    }

    public int draws(int well, int times) throws IndexOutOfBoundsException, IllegalArgumentException {
        Well asked = findWell(well);
        requireWithin(times, 1, TOLD_AT_ONCE);
        return asked.isEmpty() ? REFUSED : asked.tellBelow(ABOVE_ALL, times);
    }

    public int skip(int well, int bound) throws IndexOutOfBoundsException, IllegalArgumentException {
        Well asked = findWell(well);
        requireWithin(bound, 0, GREATEST_BOUND);
        return asked.isEmpty() ? REFUSED : asked.tellBelow(bound, TOLD_AT_ONCE);
    }

    public int copy(int well, int to) throws IndexOutOfBoundsException {
        Well asked = findWell(well);
        Well other = findWell(to);
        other.become(asked);
        return other.queue.size;
    }

    public int shake(int well) throws IndexOutOfBoundsException {
        Well asked = findWell(well);
        if (asked.isEmpty()) {
            return REFUSED;
        }
        asked.queue.turnOver();
        return asked.queue.size;
    }

    public int anew(int well) throws IndexOutOfBoundsException {
        Well asked = findWell(well);
        if (asked.isEmpty()) {
            return REFUSED;
        }
        asked.restart();
        return asked.queue.size;
    }

    public int again(int well) throws IndexOutOfBoundsException {
        Well asked = findWell(well);
        if (asked.isEmpty() || asked.closedRows != 0) {
            return REFUSED;
        }
        int times = asked.drawn;
        asked.restart();
        asked.tellBelow(ABOVE_ALL, times);
        return asked.lastNumber();
    }

    public int close(int well, int row) throws IndexOutOfBoundsException {
        Well asked = findWell(well);
        requirePlace(row, ROWS);
        return asked.closeRow(row);
    }

    public int drop(int well) throws IndexOutOfBoundsException {
        Well asked = findWell(well);
        int told = asked.drawn;
        asked.begin(NONE, 0, false);
        return told;
    }

    public int knock() {
        knocks++;
        return knocks;
    }

    // ---- what is asked of wells

    public int peek(int well) throws IndexOutOfBoundsException {
        Well asked = findWell(well);
        return asked.isDry() ? REFUSED : asked.nextNumber();
    }

    public int ofWell(int well, int what) throws IndexOutOfBoundsException, IllegalArgumentException {
        Well asked = findWell(well);
        requireWithin(what, 0, WELL_ANSWERS - 1);
        switch (what) {
            case 0: return asked.kind;
            case 1: return asked.drawn;
            case 2: return asked.queue.size;
            case 3: return asked.lastNumber();
            case 4: return asked.lastPlace(1);
            case 5: return asked.lastPlace(2);
            case 6: return asked.lastPlace(3);
            case 7: return !asked.isEmpty() && asked.isDry() ? 1 : 0;
            case 8: return asked.limit();
            default: return asked.closedRows;
        }
    }

    public int nth(int well, int n) throws IndexOutOfBoundsException, IllegalArgumentException {
        Well asked = findWell(well);
        requireWithin(n, 0, TOLD_AT_MOST - 1);
        if (asked.isEmpty()) {
            return REFUSED;
        }
        trial.become(asked);
        trial.restart();
        return trial.numberBehind(n);
    }

    public int upTo(int well, int number) throws IndexOutOfBoundsException, IllegalArgumentException {
        Well asked = findWell(well);
        requireWithin(number, 0, GREATEST_BOUND);
        return asked.canCountTo(number) ? asked.countUpTo(number) : REFUSED;
    }

    public int ways(int well, int number) throws IndexOutOfBoundsException, IllegalArgumentException {
        Well asked = findWell(well);
        requireWithin(number, 0, GREATEST_BOUND);
        if (!asked.canCountTo(number)) {
            return REFUSED;
        }
        return asked.countUpTo(number) - asked.countUpTo(number - 1);
    }

    public int waits(int well, int number) throws IndexOutOfBoundsException, IllegalArgumentException {
        Well asked = findWell(well);
        requireWithin(number, 0, GREATEST_BOUND);
        return asked.isEmpty() ? REFUSED : asked.queue.countUpTo(number);
    }

    public int isWaiting(int well, int a, int b, int c) throws IndexOutOfBoundsException {
        Well asked = findWell(well);
        if (!asked.hasPlaces()) {
            return REFUSED;
        }
        return asked.queue.holds(asked.tagAt(a, b, c)) ? 1 : 0;
    }

    public int total(int well, int many) throws IndexOutOfBoundsException, IllegalArgumentException {
        Well asked = findWell(well);
        requireWithin(many, 1, TOLD_AT_ONCE);
        if (asked.isEmpty()) {
            return REFUSED;
        }
        trial.become(asked);
        int sum = 0;
        for (int told = 0; told < many && !trial.isDry(); told++) {
            sum += trial.tell();
        }
        return sum;
    }

    public String text(int well) throws IndexOutOfBoundsException {
        trial.become(findWell(well));
        StringBuilder line = new StringBuilder();
        for (int told = 0; told < TEXT_NUMBERS && !trial.isDry(); told++) {
            appendNumber(line, trial.tell());
        }
        return line.toString();
    }

    public boolean isAlike(int first, int second) throws IndexOutOfBoundsException {
        Well one = findWell(first);
        Well other = findWell(second);
        trial.become(one);
        otherTrial.become(other);
        return doTrialsTellAlike();
    }

    // ---- all of it

    public int house(int what) throws IllegalArgumentException {
        requireWithin(what, 0, HOUSE_ANSWERS - 1);
        if (what == 5) {
            return knocks;
        }
        int sum = 0;
        if (what == 4) {
            for (int row = 0; row < rows.length; row++) {
                sum += rows[row].count;
            }
            return sum;
        }
        for (int well = 0; well < wells.length; well++) {
            sum += shareOf(wells[well], what);
        }
        return sum;
    }

    public boolean isSound() {
        if (!areRowsRising() || !areQueuesWithinLimits()) {
            return false;
        }
        for (int well = 0; well < wells.length; well++) {
            if (!wells[well].isEmpty()) {
                trial.become(wells[well]);
                otherTrial.become(wells[well]);
                otherTrial.queue.turnOver();
                return hasToldNoMoreThanIs(wells[well]) && doTrialsTellAlike();
            }
        }
        return true;
    }

    public long digest() {
        long sum = 7980;
        for (int what = 0; what < HOUSE_ANSWERS; what++) {
            sum = sum * 31 + house(what);
        }
        for (int row = 0; row < ROWS; row++) {
            int many = rowSize(row);
            sum = sum * 31 + many;
            for (int place = 0; place < many; place++) {
                sum = sum * 31 + rowAt(row, place);
            }
        }
        for (int well = 0; well < WELLS; well++) {
            for (int what = 0; what < WELL_ANSWERS; what++) {
                sum = sum * 31 + ofWell(well, what);
            }
            sum = sum * 31 + peek(well);
        }
        return sum * 31 + (isSound() ? 1 : 0);
    }

    // ---- help for the face

    private Row findRow(int row) {
        if (row < 0 || row >= rows.length) {
            throw new IndexOutOfBoundsException("no such row");
        }
        return rows[row];
    }

    private Well findWell(int well) {
        if (well < 0 || well >= wells.length) {
            throw new IndexOutOfBoundsException("no such well");
        }
        return wells[well];
    }

    private static void requirePlace(int place, int many) {
        if (place < 0 || place >= many) {
            throw new IndexOutOfBoundsException("no such place");
        }
    }

    private static void requireWithin(int number, int lowest, int highest) {
        if (number < lowest || number > highest) {
            throw new IllegalArgumentException("number out of its range");
        }
    }

    private static void appendNumber(StringBuilder line, int number) {
        if (line.length() > 0) {
            line.append(' ');
        }
        line.append(number);
    }

    /** Whether the texts of both trials are the same; both are told on by it. */
    private boolean doTrialsTellAlike() {
        for (int told = 0; told < TEXT_NUMBERS; told++) {
            if (trial.isDry() || otherTrial.isDry()) {
                return trial.isDry() && otherTrial.isDry();
            }
            if (trial.tell() != otherTrial.tell()) {
                return false;
            }
        }
        return true;
    }

    private static int shareOf(Well well, int what) {
        switch (what) {
            case 0: return well.isEmpty() ? 0 : 1;
            case 1: return !well.isEmpty() && well.isDry() ? 1 : 0;
            case 2: return well.drawn;
            default: return well.queue.size;
        }
    }

    private boolean areRowsRising() {
        for (int row = 0; row < rows.length; row++) {
            if (!rows[row].isRising()) {
                return false;
            }
        }
        return true;
    }

    private boolean areQueuesWithinLimits() {
        for (int well = 0; well < wells.length; well++) {
            if (wells[well].queue.size > wells[well].limit()) {
                return false;
            }
        }
        return true;
    }

    private static boolean hasToldNoMoreThanIs(Well well) {
        int last = well.lastNumber();
        if (last == NONE || well.closedRows != 0 || !well.canCountTo(last)) {
            return true;
        }
        return well.drawn <= well.countUpTo(last);
    }

    /** At most eight numbers, none less than the one ahead of it. */
    private static final class Row {
        private final int[] numbers = new int[ROW_LENGTH];
        private int count;

        int numberAt(int place) {
            return place < 0 || place >= count || place >= numbers.length ? NONE : numbers[place];
        }

        boolean append(int number) {
            if (count < 0 || count >= numbers.length || numberAt(count - 1) > number) {
                return false;
            }
            numbers[count] = number;
            count++;
            return true;
        }

        int removeLast() {
            int last = numberAt(count - 1);
            count--;
            return last;
        }

        void become(Row other) {
            System.arraycopy(other.numbers, 0, numbers, 0, ROW_LENGTH);
            count = other.count;
        }

        int countUpTo(int bound) {
            int many = 0;
            while (many < count && numberAt(many) <= bound) {
                many++;
            }
            return many;
        }

        boolean isRising() {
            for (int place = 1; place < count; place++) {
                if (numberAt(place) < numberAt(place - 1)) {
                    return false;
                }
            }
            return true;
        }
    }

    /**
     * What waits, as a heap of keys with the least on top. A key is a number and a tag in one int, so that
     * the order of keys is the order of entries: the number first, then the places, which the tag holds.
     */
    private static final class Queue {
        private static final int TAGS = 1024;
        // POWERS of six primes may have 1 and 5 for each of 100 told ones waiting: no other kind has more.
        private static final int CAPACITY = 512;

        private final int[] keys = new int[CAPACITY];
        private int size;

        static int keyOf(int number, int tag) {
            return number * TAGS + tag;
        }

        static int numberOf(int key) {
            return key / TAGS;
        }

        static int tagOf(int key) {
            return key % TAGS;
        }

        int firstNumber() {
            return size <= 0 ? NONE : numberOf(keys[0]);
        }

        void push(int key) {
            if (size < 0 || size >= keys.length) {
                return;
            }
            int at = size;
            size++;
            while (at > 0 && keys[(at - 1) / 2] > key) {
                keys[at] = keys[(at - 1) / 2];
                at = (at - 1) / 2;
            }
            keys[at] = key;
        }

        int pop() {
            if (size <= 0 || size > keys.length) {
                return NONE;
            }
            int first = keys[0];
            size--;
            sink(keys[size]);
            return first;
        }

        private void sink(int key) {
            int at = 0;
            int child = 1;
            while (child < size && child < keys.length) {
                if (child + 1 < size && child + 1 < keys.length && keys[child + 1] < keys[child]) {
                    child++;
                }
                if (keys[child] > key) {
                    break;
                }
                keys[at] = keys[child];
                at = child;
                child = 2 * at + 1;
            }
            keys[at] = key;
        }

        void turnOver() {
            int all = size;
            // The heap grows shorter from its end, so the place that falls free takes what came out.
            for (int free = all - 1; free >= 0 && free < keys.length; free--) {
                keys[free] = pop();
            }
            refill(all, NONE);
        }

        void remove(int tag) {
            refill(size, tag);
        }

        /** Pushes the first keys of the array anew, without that of the tag. */
        private void refill(int all, int without) {
            size = 0;
            // A push writes no further than the place that was just read.
            for (int place = 0; place < all && place < keys.length; place++) {
                int key = keys[place];
                if (tagOf(key) != without) {
                    push(key);
                }
            }
        }

        boolean holds(int tag) {
            for (int place = 0; place < size && place < keys.length; place++) {
                if (tagOf(keys[place]) == tag) {
                    return true;
                }
            }
            return false;
        }

        int countUpTo(int number) {
            int many = 0;
            for (int place = 0; place < size && place < keys.length; place++) {
                if (numberOf(keys[place]) <= number) {
                    many++;
                }
            }
            return many;
        }

        void become(Queue other) {
            System.arraycopy(other.keys, 0, keys, 0, CAPACITY);
            size = other.size;
        }
    }

    /**
     * A course, and what was told of it. The tag of an entry: its three places, eight times eight times eight
     * (MERGED: the rank of its row, then its place); of POWERS which base is the greatest prime in it; of
     * PRIMES, where multiples wait, the prime.
     */
    private static final class Well {
        private static final int GRID = 8;
        private static final int STEPS_AT_MOST = 1000000;
        private static final int EXPONENTS_AT_MOST = 17;

        private final Row[] rows = new Row[ROWS];
        private final Queue queue = new Queue();
        private int kind = NONE;
        private int set;
        private boolean isFalling;
        // A row is closed once at most: nothing of it waits then.
        private int closedRows;
        private int drawn;
        private int lastKey;

        Well() {
            for (int row = 0; row < rows.length; row++) {
                rows[row] = new Row();
            }
        }

        // -- beginning

        void beginGrid(int newKind, Row first, Row second, Row third) {
            rows[0].become(first);
            rows[1].become(second);
            rows[2].become(third);
            begin(newKind, 0, false);
        }

        void beginMerged(Row[] told, int newSet, boolean newFalling) {
            takeRows(told);
            begin(MERGED, newSet, newFalling);
        }

        void begin(int newKind, int newSet, boolean newFalling) {
            kind = newKind;
            set = newSet;
            isFalling = newFalling;
            restart();
        }

        void restart() {
            queue.size = 0;
            closedRows = 0;
            drawn = 0;
            lastKey = 0;
            if (kind == POWERS) {
                queue.push(Queue.keyOf(1, 0));
            } else if (kind == MERGED) {
                for (int row = 0; row < rows.length; row++) {
                    offerOfRow(row, 0);
                }
            } else if (isGrid()) {
                offerOfGrid(0, 0, 0);
            }
        }

        void become(Well other) {
            takeRows(other.rows);
            queue.become(other.queue);
            kind = other.kind;
            set = other.set;
            isFalling = other.isFalling;
            closedRows = other.closedRows;
            drawn = other.drawn;
            lastKey = other.lastKey;
        }

        private void takeRows(Row[] told) {
            for (int row = 0; row < rows.length && row < told.length; row++) {
                rows[row].become(told[row]);
            }
        }

        // -- telling

        int tell() {
            drawn++;
            if (kind == PRIMES) {
                tellPrime();
                return Queue.numberOf(lastKey);
            }
            lastKey = queue.pop();
            int number = Queue.numberOf(lastKey);
            int tag = Queue.tagOf(lastKey);
            if (kind == POWERS) {
                offerProducts(number, tag);
            } else if (kind == MERGED) {
                offerOfRow(rankOf(tag / (GRID * GRID)), tag / GRID % GRID + 1);
            } else {
                offerNeighbours(tag / (GRID * GRID), tag / GRID % GRID, tag % GRID);
            }
            return number;
        }

        int tellBelow(int bound, int times) {
            int told = 0;
            while (told < times && !isDry() && nextNumber() < bound) {
                tell();
                told++;
            }
            return told;
        }

        private void tellPrime() {
            int prime = nextNumber();
            for (int step = 0; step < STEPS_AT_MOST && queue.size > 0 && queue.firstNumber() <= prime; step++) {
                int multiple = queue.pop();
                queue.push(multiple + Queue.keyOf(Queue.tagOf(multiple), 0));
            }
            lastKey = Queue.keyOf(prime, prime);
            queue.push(Queue.keyOf(prime * prime, prime));
        }

        private void offerProducts(int number, int greatestBase) {
            for (int base = Math.max(greatestBase, 0); base < BASES.length; base++) {
                if (isMember(set, base) && number * BASES[base] <= GREATEST_POWER) {
                    queue.push(Queue.keyOf(number * BASES[base], base));
                }
            }
        }

        private void offerNeighbours(int i, int j, int k) {
            offerOfGrid(i, j, k + 1);
            if (k == 0) {
                offerOfGrid(i, j + 1, 0);
                if (j == 0) {
                    offerOfGrid(i + 1, 0, 0);
                }
            }
        }

        private void offerOfGrid(int i, int j, int k) {
            if (i < rows[0].count && j < rows[1].count && k < rows[2].count) {
                queue.push(Queue.keyOf(gridNumber(i, j, k), (i * GRID + j) * GRID + k));
            }
        }

        private void offerOfRow(int row, int place) {
            if (row < 0 || row >= rows.length || !isMember(set, row) || place >= rows[row].count) {
                return;
            }
            queue.push(Queue.keyOf(rows[row].numberAt(place), (rankOf(row) * GRID + place) * GRID));
        }

        int closeRow(int row) {
            if (kind != MERGED || row < 0 || row >= rows.length) {
                return REFUSED;
            }
            for (int place = 0; place < rows[row].count; place++) {
                int tag = tagAt(row, place, 0);
                if (queue.holds(tag)) {
                    queue.remove(tag);
                    closedRows++;
                    return rows[row].count - place;
                }
            }
            return REFUSED;
        }

        // -- asking

        boolean isEmpty() {
            return kind == NONE;
        }

        /** An empty well has nothing to tell either. */
        boolean isDry() {
            return drawn >= TOLD_AT_MOST || (kind != PRIMES && queue.size == 0);
        }

        int nextNumber() {
            if (kind != PRIMES) {
                return queue.firstNumber();
            }
            for (int number = Queue.numberOf(lastKey) + 1; number <= GREATEST_PRIME; number++) {
                if (isPrime(number)) {
                    return number;
                }
            }
            return NONE;
        }

        /** The number behind n more; what stands here is told on to it. */
        int numberBehind(int n) {
            tellBelow(ABOVE_ALL, n);
            return isDry() ? NONE : nextNumber();
        }

        int lastNumber() {
            return drawn == 0 ? NONE : Queue.numberOf(lastKey);
        }

        int lastPlace(int which) {
            if (drawn == 0 || !hasPlaces() || (which == 3 && kind != TRIPLES)) {
                return NONE;
            }
            int tag = Queue.tagOf(lastKey);
            if (which == 1) {
                int first = tag / (GRID * GRID);
                return kind == MERGED ? rankOf(first) : first;
            }
            return which == 2 ? tag / GRID % GRID : tag % GRID;
        }

        int limit() {
            switch (kind) {
                case POWERS: return 1 + drawn * (Integer.bitCount(set) - 1);
                case SUMS:
                case TABLE: return Math.min(drawn + 1, rows[0].count);
                case TRIPLES: return Math.min(2 * drawn + 1, rows[0].count * rows[1].count);
                case MERGED: return Integer.bitCount(set);
                default: return drawn;
            }
        }

        boolean hasPlaces() {
            return kind == MERGED || isGrid();
        }

        /** The tag of an entry with these places; NONE, which nothing has, if there can be none. */
        int tagAt(int a, int b, int c) {
            int third = kind == TRIPLES ? c : 0;
            int mostFirst = kind == MERGED ? ROWS : GRID;
            if (a < 0 || a >= mostFirst || b < 0 || b >= GRID || third < 0 || third >= GRID) {
                return NONE;
            }
            return ((kind == MERGED ? rankOf(a) : a) * GRID + b) * GRID + third;
        }

        boolean canCountTo(int number) {
            return kind != NONE && (kind != PRIMES || number <= GREATEST_PRIME);
        }

        int countUpTo(int bound) {
            switch (kind) {
                case POWERS: return countProducts(set, 1, Math.min(bound, GREATEST_POWER), 0);
                case MERGED: return countOfRows(bound);
                case PRIMES: return countPrimes(bound);
                default: return countOfGrid(bound);
            }
        }

        /** How many products of this one and bases of the set, from the told one on, are within the bound. */
        private static int countProducts(int set, int start, int bound, int base) {
            if (base < 0 || base >= BASES.length) {
                return start <= bound ? 1 : 0;
            }
            if (!isMember(set, base)) {
                return countProducts(set, start, bound, base + 1);
            }
            int many = 0;
            int product = start;
            for (int exponent = 0; exponent < EXPONENTS_AT_MOST && product <= bound; exponent++) {
                many += countProducts(set, product, bound, base + 1);
                product *= BASES[base];
            }
            return many;
        }

        private int countOfRows(int bound) {
            int many = 0;
            for (int row = 0; row < rows.length; row++) {
                if (isMember(set, row)) {
                    many += rows[row].countUpTo(bound);
                }
            }
            return many;
        }

        private static int countPrimes(int bound) {
            int many = 0;
            for (int number = 2; number <= bound && number <= GREATEST_PRIME; number++) {
                if (isPrime(number)) {
                    many++;
                }
            }
            return many;
        }

        private int countOfGrid(int bound) {
            int many = 0;
            for (int i = 0; i < rows[0].count; i++) {
                for (int j = 0; j < rows[1].count; j++) {
                    for (int k = 0; k < rows[2].count; k++) {
                        if (gridNumber(i, j, k) <= bound) {
                            many++;
                        }
                    }
                }
            }
            return many;
        }

        private boolean isGrid() {
            return kind == SUMS || kind == TRIPLES || kind == TABLE;
        }

        private static boolean isMember(int set, int member) {
            return (set >> member & 1) == 1;
        }

        /** A row's rank among likes, and a rank's row: the same turn either way. */
        private int rankOf(int row) {
            return isFalling ? ROWS - 1 - row : row;
        }

        private int gridNumber(int i, int j, int k) {
            int first = rows[0].numberAt(i);
            int second = rows[1].numberAt(j);
            return kind == TABLE ? first * second : first + second + rows[2].numberAt(k);
        }

        private static boolean isPrime(int number) {
            for (int divisor = 2; divisor * divisor <= number; divisor++) {
                if (number % divisor == 0) {
                    return false;
                }
            }
            return number > 1;
        }
    }
}
