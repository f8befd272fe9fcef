import java.math.BigInteger;

/** The edges of promises 26 to 38: what is asked of wells, and of all of it. */
public final class EdgesOfQuestionsTest extends Edges {
    /** Rows 0 and 1 with four and two numbers, 3 full, 2, 4 and 5 empty. */
    private static final Run ROWS = x -> {
        put(x, 0, 0, 4, 4, 9);
        put(x, 1, 4, 6);
        x.fill(3, 1, 1, 8);
    };

    /** 0@0,0 4@0,1 4@0,2 4@1,0 6@1,1 9@0,3. */
    private static final Run MERGED = inTurn(ROWS, x -> x.merge(0, 3, false));
    private static final Run CLOSED = inTurn(MERGED, x -> x.draws(0, 2), x -> x.close(0, 1));
    private static final Run ALL_TOLD = inTurn(MERGED, x -> x.draws(0, 6));
    private static final Run HUNDRED_TOLD = inTurn(ROWS, x -> x.triples(0, 3, 3, 3), x -> drawAll(x, 0));
    private static final Run ALL_CLOSED = inTurn(MERGED, x -> x.draw(0), x -> x.close(0, 0), x -> x.close(0, 1));
    private static final Run NOTHING_TO_TELL = x -> x.table(0, 2, 4);
    private static final Run[] DRY = {ALL_TOLD, HUNDRED_TOLD, ALL_CLOSED, NOTHING_TO_TELL};

    private static Run powers(int set, int told) {
        return x -> {
            x.powers(0, set);
            drawTimes(x, 0, told);
        };
    }

    private static Run primes(int told) {
        return x -> {
            x.primes(0);
            drawTimes(x, 0, told);
        };
    }

    private static Run told(Run begun, int told) {
        return inTurn(begun, x -> drawTimes(x, 0, told));
    }

    private static void changesNothing(Call question) {
        unchanged(HOUSE, question);
        unchanged(DRY_HOUSE, question);
    }

    // ---- 26 peek

    @Says(promise = 26, words = "Returns the number of the next ENTRY")
    private static void peekTellsAhead() {
        int[] due = {0, 4, 4, 4, 6, 9};
        for (int i = 0; i < due.length; i++) {
            int many = i;
            due(due[many], told(MERGED, many), x -> x.peek(0));
            due(due[many], told(MERGED, many), x -> x.draw(0));
        }
        due(4, CLOSED, x -> x.peek(0));
        due(9, told(CLOSED, 1), x -> x.peek(0));
        due(2, primes(0), x -> x.peek(0));
        due(541, primes(99), x -> x.peek(0));
        for (int w = 0; w < 5; w++) {
            int well = w;
            changesNothing(x -> x.peek(well));
        }
    }

    @Says(promise = 26, words = "REFUSED, if the WELL is EMPTY or DRY.")
    private static void peekOfEmptyOrDryWellIsRefused() {
        refused(NOTHING, x -> x.peek(0));
        refused(HOUSE, x -> x.peek(4));
        for (Run dry : DRY) {
            refused(dry, x -> x.peek(0));
        }
        refused(primes(100), x -> x.peek(0));
        due(0, inTurn(ALL_TOLD, x -> x.anew(0)), x -> x.peek(0));
    }

    @Says(promise = 26, words = "if well is not 0 to 4")
    private static void peekBoundsOfWell() {
        boundsAre(0, 4, HOUSE, (x, well) -> x.peek(well));
    }

    // ---- 27 ofWell

    @Says(promise = 27, words = "of an EMPTY one NONE for 0 and 3 to 6, otherwise 0")
    private static void ofEmptyWell() {
        int[] due = {NONE, 0, 0, NONE, NONE, NONE, NONE, 0, 0, 0};
        for (int i = 0; i < due.length; i++) {
            int what = i;
            due(due[what], NOTHING, x -> x.ofWell(4, what));
            due(due[what], HOUSE, x -> x.ofWell(4, what));
            due(due[what], inTurn(HUNDRED_TOLD, x -> x.drop(0)), x -> x.ofWell(0, what));
            due(due[what], inTurn(CLOSED, x -> x.copy(3, 0)), x -> x.ofWell(0, what));
        }
    }

    @Says(promise = 27, words = "without a LAST NONE for 3 to 6.")
    private static void ofWellWithoutLast() {
        due("3 0 2 -1 -1 -1 -1 0 2 0", MERGED, x -> ofWell(x, 0));
        due("3 0 1 -1 -1 -1 -1 0 2 1", inTurn(MERGED, x -> x.close(0, 0)), x -> ofWell(x, 0));
        due("5 0 0 -1 -1 -1 -1 0 0 0", primes(0), x -> ofWell(x, 0));
        due("0 0 1 -1 -1 -1 -1 0 1 0", powers(63, 0), x -> ofWell(x, 0));
        due("2 0 1 -1 -1 -1 -1 0 1 0", inTurn(HUNDRED_TOLD, x -> x.anew(0)), x -> ofWell(x, 0));
        due("4 0 0 -1 -1 -1 -1 1 0 0", NOTHING_TO_TELL, x -> ofWell(x, 0));
    }

    @Says(promise = 27, words = "4 to 6 its first, second and third PLACE (NONE without)")
    private static void placesOfEachKind() {
        due("0 1 6 1 -1 -1 -1 0 6 0", powers(63, 1), x -> ofWell(x, 0));
        due("1 1 2 4 0 0 -1 0 2 0", inTurn(ROWS, x -> x.sums(0, 0, 1), x -> x.draw(0)), x -> ofWell(x, 0));
        due("2 1 3 5 0 0 0 0 3 0", inTurn(ROWS, x -> x.triples(0, 0, 1, 3), x -> x.draw(0)), x -> ofWell(x, 0));
        due("3 4 2 4 1 0 -1 0 2 0", told(MERGED, 4), x -> ofWell(x, 0));
        due("4 1 2 0 0 0 -1 0 2 0", inTurn(ROWS, x -> x.table(0, 0, 1), x -> x.draw(0)), x -> ofWell(x, 0));
        due("5 1 1 2 -1 -1 -1 0 1 0", primes(1), x -> ofWell(x, 0));
        // The last places of all.
        Run full = inTurn(ROWS, x -> x.sums(0, 3, 3), x -> drawAll(x, 0));
        due("1 64 0 16 7 7 -1 1 8 0", full, x -> ofWell(x, 0));
        Run rowFive = inTurn(x -> x.fill(5, 1, 1, 8), x -> x.merge(0, 32, true), x -> x.draws(0, 8));
        due("3 8 0 8 5 7 -1 1 1 0", rowFive, x -> ofWell(x, 0));
        Run thirds = inTurn(ROWS, x -> x.triples(0, 1, 1, 3), x -> drawAll(x, 0));
        due("2 32 0 20 1 1 7 1 4 0", thirds, x -> ofWell(x, 0));
        for (int what = 0; what <= 9; what++) {
            int asked = what;
            changesNothing(x -> x.ofWell(0, asked));
        }
    }

    @Says(promise = 27, words = "7 1 if it is DRY, otherwise 0")
    private static void ofDryWell() {
        for (Run dry : DRY) {
            due(1, dry, x -> x.ofWell(0, 7));
        }
        due(0, NOTHING, x -> x.ofWell(0, 7));
        due(0, told(MERGED, 5), x -> x.ofWell(0, 7));
        due(0, primes(99), x -> x.ofWell(0, 7));
        due(1, primes(100), x -> x.ofWell(0, 7));
        due(0, inTurn(HUNDRED_TOLD, x -> x.anew(0)), x -> x.ofWell(0, 7));
    }

    @Says(promise = 27, words = "Returns that")
    private static void kindsOfWells() {
        due("0 1 2 3 4", inTurn(ROWS, x -> x.powers(0, 1), x -> x.sums(1, 0, 0), x -> x.triples(2, 0, 0, 0),
            x -> x.merge(3, 1, false), x -> x.table(4, 0, 0)), x -> x.ofWell(0, 0) + " " + x.ofWell(1, 0) + " "
            + x.ofWell(2, 0) + " " + x.ofWell(3, 0) + " " + x.ofWell(4, 0));
        due(5, primes(0), x -> x.ofWell(0, 0));
    }

    @Says(promise = 27, words = "if well is not 0 to 4")
    private static void ofWellBoundsOfWell() {
        boundsAre(0, 4, HOUSE, (x, well) -> x.ofWell(well, 0));
        outOfBounds(HOUSE, x -> x.ofWell(5, 10));
        outOfBounds(HOUSE, x -> x.ofWell(-1, -1));
    }

    @Says(promise = 27, words = "if what is not 0 to 9")
    private static void ofWellBoundsOfWhat() {
        legalAre(0, 9, HOUSE, (x, what) -> x.ofWell(0, what));
        legalAre(0, 9, HOUSE, (x, what) -> x.ofWell(4, what));
    }

    // ---- 28 nth

    @Says(promise = 28, words = "(as if nothing had been told, and no row were CLOSED)")
    private static void nthOfTheWholeCourse() {
        int[] due = {0, 4, 4, 4, 6, 9};
        for (int i = 0; i < due.length; i++) {
            int n = i;
            for (Run run : new Run[] {MERGED, CLOSED, ALL_TOLD, ALL_CLOSED}) {
                due(due[n], run, x -> x.nth(0, n));
            }
        }
        due(3, HUNDRED_TOLD, x -> x.nth(0, 0));
        due(541, primes(0), x -> x.nth(0, 99));
        due(541, primes(100), x -> x.nth(0, 99));
        due(523, primes(100), x -> x.nth(0, 98));
        due(2, primes(100), x -> x.nth(0, 0));
        changesNothing(x -> x.nth(0, 5));
        changesNothing(x -> x.nth(2, 99));
        changesNothing(x -> x.nth(4, 0));
    }

    @Says(promise = 28, words = "NONE, if there is none; REFUSED, if the WELL is EMPTY.")
    private static void nthBeyondTheCourse() {
        due(9, MERGED, x -> x.nth(0, 5));
        due(NONE, MERGED, x -> x.nth(0, 6));
        due(NONE, CLOSED, x -> x.nth(0, 6));
        due(NONE, MERGED, x -> x.nth(0, 99));
        due(NONE, NOTHING_TO_TELL, x -> x.nth(0, 0));
        // 4 * 5 * 5 ENTRIES, then one more row of 5 and one less.
        Run hundred = x -> {
            x.fill(0, 1, 0, 4);
            x.fill(1, 2, 0, 5);
            x.triples(0, 0, 1, 1);
        };
        due(5, hundred, x -> x.nth(0, 99));
        Run ninetyEight = x -> {
            x.fill(0, 1, 0, 2);
            x.fill(1, 2, 0, 7);
            x.triples(0, 0, 1, 1);
        };
        due(5, ninetyEight, x -> x.nth(0, 97));
        due(NONE, ninetyEight, x -> x.nth(0, 98));
        due(NONE, ninetyEight, x -> x.nth(0, 99));
        due(65536, powers(1, 0), x -> x.nth(0, 16));
        due(NONE, powers(1, 0), x -> x.nth(0, 17));
        refused(NOTHING, x -> x.nth(0, 0));
        refused(HOUSE, x -> x.nth(4, 99));
        refused(inTurn(MERGED, x -> x.drop(0)), x -> x.nth(0, 0));
    }

    @Says(promise = 28, words = "Returns the number of that ENTRY")
    private static void nthDoesNotTell() {
        due("0 9 0", MERGED, x -> x.nth(0, 0) + " " + x.nth(0, 5) + " " + x.ofWell(0, 1));
    }

    @Says(promise = 28, words = "if well is not 0 to 4")
    private static void nthBoundsOfWell() {
        boundsAre(0, 4, HOUSE, (x, well) -> x.nth(well, 0));
        outOfBounds(HOUSE, x -> x.nth(5, 100));
        outOfBounds(HOUSE, x -> x.nth(-1, -1));
    }

    @Says(promise = 28, words = "if n is not 0 to 99")
    private static void nthBoundsOfN() {
        legalAre(0, 99, HOUSE, (x, n) -> x.nth(2, n));
        legalAre(0, 99, HOUSE, (x, n) -> x.nth(4, n));
    }

    // ---- 29 upTo

    @Says(promise = 29, words = "have a number that is no greater")
    private static void upToEdges() {
        int[][] due = {{0, 1}, {3, 1}, {4, 4}, {5, 4}, {6, 5}, {8, 5}, {9, 6}, {10, 6}, {1000000, 6}};
        for (int[] pair : due) {
            due(pair[1], MERGED, x -> x.upTo(0, pair[0]));
        }
        Run sums = inTurn(ROWS, x -> x.sums(0, 0, 1));
        // 4 6 8 10 8 10 13 15.
        int[][] dueOfSums = {{3, 0}, {4, 1}, {7, 2}, {8, 4}, {10, 6}, {12, 6}, {13, 7}, {14, 7}, {15, 8}};
        for (int[] pair : dueOfSums) {
            due(pair[1], sums, x -> x.upTo(0, pair[0]));
        }
        Run table = inTurn(ROWS, x -> x.table(0, 0, 1));
        // 0 0 16 24 16 24 36 54.
        int[][] dueOfTable = {{0, 2}, {15, 2}, {16, 4}, {23, 4}, {24, 6}, {36, 7}, {53, 7}, {54, 8}};
        for (int[] pair : dueOfTable) {
            due(pair[1], table, x -> x.upTo(0, pair[0]));
        }
        due(0, powers(63, 0), x -> x.upTo(0, 0));
        due(1, powers(63, 0), x -> x.upTo(0, 1));
        due(0, NOTHING_TO_TELL, x -> x.upTo(0, 1000000));
    }

    @Says(promise = 29, words = "(all of them, also those of CLOSED rows, and also more than 100)")
    private static void upToCountsAll() {
        due(6, CLOSED, x -> x.upTo(0, 9));
        due(6, ALL_CLOSED, x -> x.upTo(0, 9));
        due(6, ALL_TOLD, x -> x.upTo(0, 9));
        due(512, HUNDRED_TOLD, x -> x.upTo(0, 24));
        due(511, HUNDRED_TOLD, x -> x.upTo(0, 23));
        due(1, HUNDRED_TOLD, x -> x.upTo(0, 3));
        due(0, HUNDRED_TOLD, x -> x.upTo(0, 2));
        due(101, primes(0), x -> x.upTo(0, 547));
        due(109, primes(100), x -> x.upTo(0, 600));
        changesNothing(x -> x.upTo(0, 100));
        changesNothing(x -> x.upTo(2, 600));
    }

    @Says(promise = 29, words = "REFUSED, if the WELL is EMPTY, or if its KIND is 5, and the number above 600.")
    private static void upToIsRefused() {
        refused(NOTHING, x -> x.upTo(0, 0));
        refused(HOUSE, x -> x.upTo(4, 1000000));
        due(108, primes(0), x -> x.upTo(0, 598));
        due(109, primes(0), x -> x.upTo(0, 599));
        due(109, primes(0), x -> x.upTo(0, 600));
        refused(primes(0), x -> x.upTo(0, 601));
        refused(primes(9), x -> x.upTo(0, 1000000));
        due(6, MERGED, x -> x.upTo(0, 601));
        due(powersUpTo(601), powers(63, 0), x -> x.upTo(0, 601));
    }

    private static int powersUpTo(int bound) {
        int many = 0;
        for (int number = 1; number <= bound; number++) {
            int left = number;
            for (int prime : new int[] {2, 3, 5, 7, 11, 13}) {
                while (left % prime == 0) {
                    left /= prime;
                }
            }
            many += left == 1 ? 1 : 0;
        }
        return many;
    }

    @Says(promise = 29, words = "if well is not 0 to 4")
    private static void upToBoundsOfWell() {
        boundsAre(0, 4, HOUSE, (x, well) -> x.upTo(well, 1));
        outOfBounds(HOUSE, x -> x.upTo(5, -1));
        outOfBounds(HOUSE, x -> x.upTo(-1, 1000001));
    }

    @Says(promise = 29, words = "if number is not 0 to 1000000")
    private static void upToBoundsOfNumber() {
        legalAre(0, 1000000, HOUSE, (x, number) -> x.upTo(0, number));
        legalAre(0, 1000000, HOUSE, (x, number) -> x.upTo(3, number));
        legalAre(0, 1000000, HOUSE, (x, number) -> x.upTo(4, number));
    }

    // ---- 30 ways

    @Says(promise = 30, words = "Returns how many ENTRIES of its COURSE have just that number (as of upTo())")
    private static void waysEdges() {
        int[][] due = {{0, 1}, {1, 0}, {3, 0}, {4, 3}, {5, 0}, {6, 1}, {9, 1}, {10, 0}, {1000000, 0}};
        for (int[] pair : due) {
            for (Run run : new Run[] {MERGED, CLOSED, ALL_CLOSED, ALL_TOLD}) {
                due(pair[1], run, x -> x.ways(0, pair[0]));
            }
        }
        due(0, powers(63, 0), x -> x.ways(0, 0));
        due(1, powers(63, 0), x -> x.ways(0, 1));
        due(0, powers(63, 0), x -> x.ways(0, 17));
        // Three of 1 to 8 make 13 or 14 in 48 ways, more than were told of them behind a hundred.
        due("1 3 48 48 3 1 0", HUNDRED_TOLD, x -> x.ways(0, 3) + " " + x.ways(0, 4) + " " + x.ways(0, 13) + " "
            + x.ways(0, 14) + " " + x.ways(0, 23) + " " + x.ways(0, 24) + " " + x.ways(0, 25));
        due("2 2 0", inTurn(ROWS, x -> x.table(0, 0, 1)), x -> x.ways(0, 0) + " " + x.ways(0, 16) + " " + x.ways(0, 1));
        due("0 0 1 1 0", primes(0), x -> x.ways(0, 0) + " " + x.ways(0, 1) + " " + x.ways(0, 2) + " " + x.ways(0, 3)
            + " " + x.ways(0, 4));
        changesNothing(x -> x.ways(0, 4));
        changesNothing(x -> x.ways(2, 599));
    }

    @Says(promise = 30, words = "REFUSED, if the WELL is EMPTY, or if its KIND is 5, and the number above 600.")
    private static void waysIsRefused() {
        refused(NOTHING, x -> x.ways(0, 0));
        refused(HOUSE, x -> x.ways(4, 1000000));
        due(1, primes(0), x -> x.ways(0, 599));
        due(0, primes(0), x -> x.ways(0, 600));
        refused(primes(0), x -> x.ways(0, 601));
        refused(primes(100), x -> x.ways(0, 1000000));
        due(0, MERGED, x -> x.ways(0, 601));
        due(1, powers(63, 0), x -> x.ways(0, 616));
    }

    @Says(promise = 30, words = "if well is not 0 to 4")
    private static void waysBoundsOfWell() {
        boundsAre(0, 4, HOUSE, (x, well) -> x.ways(well, 1));
        outOfBounds(HOUSE, x -> x.ways(5, -1));
        outOfBounds(HOUSE, x -> x.ways(-1, 1000001));
    }

    @Says(promise = 30, words = "if number is not 0 to 1000000")
    private static void waysBoundsOfNumber() {
        legalAre(0, 1000000, HOUSE, (x, number) -> x.ways(0, number));
        legalAre(0, 1000000, HOUSE, (x, number) -> x.ways(3, number));
        legalAre(0, 1000000, HOUSE, (x, number) -> x.ways(4, number));
    }

    // ---- 31 waits

    @Says(promise = 31, words = "Returns how many WAITING ones have a number that is no greater")
    private static void waitsEdges() {
        // Behind the 0 two of 4 wait, at 0,1 and 1,0; with the row 1 CLOSED the 4 at 0,2, and then the 9.
        int[][] due = {{0, 0}, {3, 0}, {4, 2}, {5, 2}, {1000000, 2}};
        for (int[] pair : due) {
            due(pair[1], told(MERGED, 1), x -> x.waits(0, pair[0]));
        }
        due("1 1 2 2", MERGED, x -> x.waits(0, 0) + " " + x.waits(0, 3) + " " + x.waits(0, 4) + " " + x.waits(0, 1000000));
        due("0 1 1", CLOSED, x -> x.waits(0, 3) + " " + x.waits(0, 4) + " " + x.waits(0, 1000000));
        due("0 1", told(CLOSED, 1), x -> x.waits(0, 8) + " " + x.waits(0, 9));
        due(0, ALL_TOLD, x -> x.waits(0, 1000000));
        due(0, ALL_CLOSED, x -> x.waits(0, 1000000));
        due(0, NOTHING_TO_TELL, x -> x.waits(0, 1000000));
        // With 100 told some wait.
        due(true, HUNDRED_TOLD, x -> x.waits(0, 1000000) == x.ofWell(0, 2) && x.ofWell(0, 2) > 0);
        Run greatest = inTurn(x -> x.add(0, 999), x -> x.table(0, 0, 0));
        due("0 1", greatest, x -> x.waits(0, 998000) + " " + x.waits(0, 998001));
        // No number is too great to be asked of PRIMES.
        due("0 1 100", primes(100), x -> x.waits(0, 541) + " " + x.waits(0, 542) + " " + x.waits(0, 1000000));
        changesNothing(x -> x.waits(0, 7));
        changesNothing(x -> x.waits(2, 601));
    }

    @Says(promise = 31, words = "REFUSED, if the WELL is EMPTY.")
    private static void waitsOfEmptyWellIsRefused() {
        refused(NOTHING, x -> x.waits(0, 0));
        refused(HOUSE, x -> x.waits(4, 1000000));
        due(0, primes(0), x -> x.waits(0, 601));
    }

    @Says(promise = 31, words = "if well is not 0 to 4")
    private static void waitsBoundsOfWell() {
        boundsAre(0, 4, HOUSE, (x, well) -> x.waits(well, 1));
        outOfBounds(HOUSE, x -> x.waits(5, -1));
        outOfBounds(HOUSE, x -> x.waits(-1, 1000001));
    }

    @Says(promise = 31, words = "if number is not 0 to 1000000")
    private static void waitsBoundsOfNumber() {
        legalAre(0, 1000000, HOUSE, (x, number) -> x.waits(0, number));
        legalAre(0, 1000000, HOUSE, (x, number) -> x.waits(4, number));
    }

    // ---- 32 isWaiting

    @Says(promise = 32, words = "Returns 1 if there is an ENTRY with these PLACES in the COURSE, and it is WAITING, otherwise 0")
    private static void isWaitingEdges() {
        Run last = told(inTurn(ROWS, x -> x.sums(0, 3, 3)), 63);
        due("1 0 0 0 0", last, x -> x.isWaiting(0, 7, 7, 0) + " " + x.isWaiting(0, 7, 8, 0) + " "
            + x.isWaiting(0, 8, 7, 0) + " " + x.isWaiting(0, 8, -1, 0) + " " + x.isWaiting(0, 7, 6, 0));
        due(0, told(last, 1), x -> x.isWaiting(0, 7, 7, 0));
        Run first = inTurn(ROWS, x -> x.triples(0, 0, 1, 3));
        due("1 0 0 0 0 0 0", first, x -> x.isWaiting(0, 0, 0, 0) + " " + x.isWaiting(0, 0, 0, 1) + " "
            + x.isWaiting(0, 0, 0, -1) + " " + x.isWaiting(0, 0, -1, 8) + " " + x.isWaiting(0, -1, 8, 0) + " "
            + x.isWaiting(0, 0, 0, 512) + " " + x.isWaiting(0, -1, 7, 8));
        due("0 1 1 1", told(first, 1), x -> x.isWaiting(0, 0, 0, 0) + " " + x.isWaiting(0, 0, 0, 1) + " "
            + x.isWaiting(0, 0, 1, 0) + " " + x.isWaiting(0, 1, 0, 0));
        int[] edges = {-1, 8, Integer.MIN_VALUE, Integer.MAX_VALUE};
        for (int edge : edges) {
            due("0 0 0", told(first, 1), x -> x.isWaiting(0, edge, 0, 0) + " " + x.isWaiting(0, 0, edge, 0) + " "
                + x.isWaiting(0, 0, 0, edge));
            due("0 0", inTurn(ROWS, x -> x.table(0, 0, 1)),
                x -> x.isWaiting(0, edge, 0, 0) + " " + x.isWaiting(0, 0, edge, 0));
            due("0 0", MERGED, x -> x.isWaiting(0, edge, 0, 0) + " " + x.isWaiting(0, 0, edge, 0));
        }
        // The 8th one of a row is no place less of the next row, and the 9th is not its first.
        Run eighth = told(inTurn(ROWS, x -> x.triples(0, 0, 3, 3)), 28);
        due("1 0", eighth, x -> x.isWaiting(0, 0, 0, 7) + " " + x.isWaiting(0, 0, 1, -1));
        Run eighthOfSums = told(inTurn(ROWS, x -> x.sums(0, 0, 3)), 13);
        due("1 0 1 0", eighthOfSums, x -> x.isWaiting(0, 0, 7, 0) + " " + x.isWaiting(0, 1, -1, 0) + " "
            + x.isWaiting(0, 3, 0, 0) + " " + x.isWaiting(0, 2, 8, 0));
        Run eighthOfMerged = told(inTurn(ROWS, x -> x.merge(0, 24, false)), 7);
        due("1 0", eighthOfMerged, x -> x.isWaiting(0, 3, 7, 0) + " " + x.isWaiting(0, 4, -1, 0));
        changesNothing(x -> x.isWaiting(0, 0, 0, 0));
        changesNothing(x -> x.isWaiting(1, -1, 9, 9));
    }

    @Says(promise = 32, words = "- `a`: its first PLACE")
    private static void isWaitingOfMergedRows() {
        Run all = x -> {
            for (int row = 0; row < 6; row++) {
                x.fill(row, 7, 0, 8);
            }
        };
        for (boolean isFalling : new boolean[] {false, true}) {
            for (int set : new int[] {1, 32, 63}) {
                int[] rows = {-1, 0, 1, 4, 5, 6, 7};
                for (int row : rows) {
                    boolean isIn = row >= 0 && row <= 5 && (set & 1 << row) != 0;
                    Run begun = inTurn(all, x -> x.merge(0, set, isFalling));
                    due((isIn ? 1 : 0) + " 0", begun, x -> x.isWaiting(0, row, 0, 0) + " " + x.isWaiting(0, row, 1, 0));
                }
            }
            Run closed = inTurn(all, x -> x.merge(0, 63, isFalling), x -> x.draw(0), x -> x.close(0, 5));
            due("0 0", closed, x -> x.isWaiting(0, 5, 0, 0) + " " + x.isWaiting(0, 5, 1, 0));
            due(isFalling ? "1 0" : "0 1", closed, x -> x.isWaiting(0, 0, 0, 0) + " " + x.isWaiting(0, 0, 1, 0));
        }
        due(1, inTurn(all, x -> x.merge(0, 1, true), x -> x.draws(0, 7)), x -> x.isWaiting(0, 0, 7, 0));
        due(0, inTurn(all, x -> x.merge(0, 1, true), x -> x.draws(0, 8)), x -> x.isWaiting(0, 0, 7, 0));
    }

    @Says(promise = 32, words = "- `c`: its third PLACE (not looked at, if the KIND is not 2)")
    private static void isWaitingLooksAtTheThirdPlaceOfTriplesAlone() {
        for (int third : new int[] {0, 1, 7, 8, -1, Integer.MIN_VALUE, Integer.MAX_VALUE}) {
            due(1, inTurn(ROWS, x -> x.sums(0, 0, 1)), x -> x.isWaiting(0, 0, 0, third));
            due(1, inTurn(ROWS, x -> x.table(0, 0, 1)), x -> x.isWaiting(0, 0, 0, third));
            due(1, MERGED, x -> x.isWaiting(0, 1, 0, third));
            due(0, MERGED, x -> x.isWaiting(0, 1, 1, third));
            due(third == 0 ? 1 : 0, inTurn(ROWS, x -> x.triples(0, 0, 1, 3)), x -> x.isWaiting(0, 0, 0, third));
        }
    }

    @Says(promise = 32, words = "REFUSED, if the WELL is EMPTY, or its KIND 0 or 5.")
    private static void isWaitingIsRefused() {
        refused(NOTHING, x -> x.isWaiting(0, 0, 0, 0));
        refused(HOUSE, x -> x.isWaiting(4, -1, 8, 0));
        refused(powers(63, 0), x -> x.isWaiting(0, 0, 0, 0));
        refused(powers(63, 9), x -> x.isWaiting(0, 0, 0, 0));
        refused(primes(0), x -> x.isWaiting(0, 0, 0, 0));
        refused(primes(9), x -> x.isWaiting(0, 8, 8, 8));
        due(0, NOTHING_TO_TELL, x -> x.isWaiting(0, 0, 0, 0));
        due(0, ALL_TOLD, x -> x.isWaiting(0, 0, 3, 0));
    }

    @Says(promise = 32, words = "if well is not 0 to 4")
    private static void isWaitingBoundsOfWell() {
        boundsAre(0, 4, HOUSE, (x, well) -> x.isWaiting(well, 0, 0, 0));
        outOfBounds(HOUSE, x -> x.isWaiting(5, -1, -1, -1));
    }

    // ---- 33 total

    @Says(promise = 33, words = "Returns the sum of the numbers of as many ENTRIES as would be told next (of fewer, if the WELL were DRY then)")
    private static void totalEdges() {
        int[] due = {0, 4, 8, 12, 18, 27, 27, 27};
        for (int i = 0; i < due.length; i++) {
            int many = i + 1;
            due(due[i], MERGED, x -> x.total(0, many));
        }
        due(27, MERGED, x -> x.total(0, 20));
        due(13, CLOSED, x -> x.total(0, 20));
        due(4, CLOSED, x -> x.total(0, 1));
        due(639, primes(0), x -> x.total(0, 20));
        due(639 - 71, primes(0), x -> x.total(0, 19));
        due(541, primes(99), x -> x.total(0, 20));
        due(541, primes(99), x -> x.total(0, 1));
        due(523 + 541, primes(98), x -> x.total(0, 2));
        due(523, primes(98), x -> x.total(0, 1));
        for (Run dry : DRY) {
            due(0, dry, x -> x.total(0, 1));
            due(0, dry, x -> x.total(0, 20));
        }
        Run greatest = inTurn(x -> put(x, 0, 999, 999, 999, 999, 999, 999, 999, 999), x -> x.table(0, 0, 0));
        due(19960020, greatest, x -> x.total(0, 20));
        for (int w = 0; w < 5; w++) {
            int well = w;
            changesNothing(x -> x.total(well, 20));
        }
    }

    @Says(promise = 33, words = "REFUSED, if the WELL is EMPTY.")
    private static void totalOfEmptyWellIsRefused() {
        refused(NOTHING, x -> x.total(0, 1));
        refused(HOUSE, x -> x.total(4, 20));
        refused(inTurn(MERGED, x -> x.drop(0)), x -> x.total(0, 1));
    }

    @Says(promise = 33, words = "if well is not 0 to 4")
    private static void totalBoundsOfWell() {
        boundsAre(0, 4, HOUSE, (x, well) -> x.total(well, 1));
        outOfBounds(HOUSE, x -> x.total(5, 0));
        outOfBounds(HOUSE, x -> x.total(-1, 21));
    }

    @Says(promise = 33, words = "if many is not 1 to 20")
    private static void totalBoundsOfMany() {
        legalAre(1, 20, HOUSE, (x, many) -> x.total(1, many));
        legalAre(1, 20, HOUSE, (x, many) -> x.total(4, many));
    }

    // ---- 34 text

    @Says(promise = 34, words = "Returns the numbers of the ENTRIES that would be told next, 8 at most (fewer, if the WELL were DRY then), with a blank between two")
    private static void textEdges() {
        Run ten = x -> {
            x.fill(3, 1, 1, 8);
            put(x, 4, 20, 30);
            x.merge(0, 24, false);
        };
        due("1 2 3 4 5 6 7 8", ten, x -> x.text(0));
        due("2 3 4 5 6 7 8 20", told(ten, 1), x -> x.text(0));
        due("3 4 5 6 7 8 20 30", told(ten, 2), x -> x.text(0));
        due("4 5 6 7 8 20 30", told(ten, 3), x -> x.text(0));
        due("30", told(ten, 9), x -> x.text(0));
        due("4 9", CLOSED, x -> x.text(0));
        due("479 487 491 499 503 509 521 523", primes(91), x -> x.text(0));
        due("487 491 499 503 509 521 523 541", primes(92), x -> x.text(0));
        due("491 499 503 509 521 523 541", primes(93), x -> x.text(0));
        due("541", primes(99), x -> x.text(0));
        due("998001", inTurn(x -> x.add(0, 999), x -> x.table(0, 0, 0)), x -> x.text(0));
        due("0", inTurn(x -> x.add(0, 0), x -> x.table(0, 0, 0)), x -> x.text(0));
        for (int w = 0; w < 5; w++) {
            int well = w;
            changesNothing(x -> x.text(well));
        }
    }

    @Says(promise = 34, words = "\"\" if there is none (also if the WELL is EMPTY).")
    private static void textOfNothing() {
        due("", NOTHING, x -> x.text(0));
        due("", HOUSE, x -> x.text(4));
        due("", primes(100), x -> x.text(0));
        for (Run dry : DRY) {
            due("", dry, x -> x.text(0));
        }
    }

    @Says(promise = 34, words = "if well is not 0 to 4")
    private static void textBoundsOfWell() {
        boundsAre(0, 4, HOUSE, (x, well) -> x.text(well));
    }

    // ---- 35 isAlike

    private static Run twoRows(int[] first, int[] second) {
        return x -> {
            put(x, 0, first);
            put(x, 1, second);
            x.merge(0, 1, false);
            x.merge(1, 2, false);
        };
    }

    @Says(promise = 35, words = "Returns whether text() of both is the same.")
    private static void isAlikeEdges() {
        due(true, NOTHING, x -> x.isAlike(0, 4));
        due(true, HOUSE, x -> x.isAlike(4, 4));
        due(true, HOUSE, x -> x.isAlike(0, 0));
        due(false, HOUSE, x -> x.isAlike(0, 4));
        due(false, HOUSE, x -> x.isAlike(4, 0));
        for (Run dry : DRY) {
            due(true, dry, x -> x.isAlike(0, 4));
            due(true, dry, x -> x.isAlike(4, 0));
        }
        due(true, twoRows(new int[] {1, 2}, new int[] {1, 2}), x -> x.isAlike(0, 1));
        due(false, twoRows(new int[] {1, 2}, new int[] {1}), x -> x.isAlike(0, 1));
        due(false, twoRows(new int[] {1}, new int[] {1, 2}), x -> x.isAlike(0, 1));
        due(false, twoRows(new int[] {1, 2}, new int[] {12}), x -> x.isAlike(0, 1));
        due(false, twoRows(new int[] {1, 2}, new int[] {1, 3}), x -> x.isAlike(0, 1));
        due(false, twoRows(new int[] {0}, new int[] {}), x -> x.isAlike(0, 1));
        due(false, twoRows(new int[] {1, 2, 3, 4, 5, 6, 7, 8}, new int[] {1, 2, 3, 4, 5, 6, 7, 9}),
            x -> x.isAlike(0, 1));
        due(false, twoRows(new int[] {1, 2, 3, 4, 5, 6, 7, 8}, new int[] {1, 2, 3, 4, 5, 6, 7}),
            x -> x.isAlike(0, 1));
    }

    @Says(promise = 35, words = "text() of both")
    private static void isAlikeAsksEightNumbersAlone() {
        Run rows = x -> {
            x.fill(0, 1, 1, 8);
            put(x, 1, 9);
            put(x, 2, 10);
            x.merge(0, 1, false);
            x.merge(1, 3, false);
            x.merge(2, 5, true);
        };
        due(true, rows, x -> x.isAlike(0, 1));
        due(true, rows, x -> x.isAlike(1, 2));
        due(false, inTurn(rows, x -> x.draw(0), x -> x.draw(1)), x -> x.isAlike(0, 1));
        due(false, inTurn(rows, x -> x.draw(1), x -> x.draw(2)), x -> x.isAlike(1, 2));
        // Of another KIND, with other PLACES: the numbers alone are asked.
        due(true, inTurn(rows, x -> x.add(3, 0), x -> x.sums(3, 3, 0)), x -> x.isAlike(3, 0));
        due(true, inTurn(rows, x -> x.shake(1)), x -> x.isAlike(1, 2));
        changesNothing(x -> x.isAlike(0, 1));
        changesNothing(x -> x.isAlike(2, 3));
        changesNothing(x -> x.isAlike(4, 4));
    }

    @Says(promise = 35, words = "if first or second is not 0 to 4")
    private static void isAlikeBounds() {
        boundsAre(0, 4, HOUSE, (x, first) -> x.isAlike(first, 0));
        boundsAre(0, 4, HOUSE, (x, second) -> x.isAlike(0, second));
        boundsAre(0, 4, HOUSE, (x, second) -> x.isAlike(4, second));
        outOfBounds(HOUSE, x -> x.isAlike(5, 5));
    }

    // ---- 36 house

    private static String house(Endlessrows x) {
        StringBuilder line = new StringBuilder();
        for (int what = 0; what <= 5; what++) {
            line.append(what == 0 ? "" : " ").append(x.house(what));
        }
        return line.toString();
    }

    @Says(promise = 36, words = "- `what`: 0 how many WELLS are not EMPTY, 1 how many of these are DRY, 2 DRAWN of all WELLS together, 3 SIZE of all WELLS together, 4 how many numbers all ROWS have together, 5 how often one knocked")
    private static void houseFromNoneToAll() {
        due("0 0 0 0 0 0", NOTHING, x -> house(x));
        Run all = x -> {
            for (int row = 0; row < 6; row++) {
                x.fill(row, 99, 99, 8);
            }
            for (int well = 0; well < 5; well++) {
                x.primes(well);
                drawAll(x, well);
            }
        };
        due("5 5 500 500 48 0", all, x -> house(x));
        due("5 4 400 400 48 0", inTurn(all, x -> x.anew(4)), x -> house(x));
        due("4 4 400 400 48 0", inTurn(all, x -> x.drop(0)), x -> house(x));
        due("5 5 400 400 48 0", inTurn(all, x -> x.clear(0), x -> x.sums(4, 0, 0), x -> x.fill(0, 0, 0, 8)),
            x -> house(x));
        due("5 5 500 500 47 1", inTurn(all, x -> x.cut(5), x -> x.knock()), x -> house(x));
        // 56, 9, 100, 0 and 7 are told; of the TABLE 2 wait, 100 of PRIMES, and 11 of POWERS.
        due("5 3 172 113 15 0", DRY_HOUSE, x -> house(x));
        for (int what = 0; what <= 5; what++) {
            int asked = what;
            changesNothing(x -> x.house(asked));
        }
    }

    @Says(promise = 36, words = "Returns that.")
    private static void houseTellsEach() {
        due("1 0 2 1 14 0", CLOSED, x -> house(x));
        due("1 1 6 0 14 0", ALL_TOLD, x -> house(x));
        due("1 1 1 0 14 0", ALL_CLOSED, x -> house(x));
        due("1 1 0 0 0 0", NOTHING_TO_TELL, x -> house(x));
    }

    @Says(promise = 36, words = "if what is not 0 to 5")
    private static void houseBounds() {
        legalAre(0, 5, HOUSE, (x, what) -> x.house(what));
    }

    // ---- 37 isSound: SoundnessTest has the objects that are not sound

    @Says(promise = 37, words = "Returns whether all of this is so")
    private static void allThatCallsMakeIsSound() {
        for (Run run : new Run[] {NOTHING, HOUSE, DRY_HOUSE, MERGED, CLOSED, ALL_TOLD, ALL_CLOSED, HUNDRED_TOLD,
            NOTHING_TO_TELL, powers(63, 0), powers(63, 100), powers(1, 17), primes(0), primes(1), primes(100)}) {
            due(true, run, x -> x.isSound());
            unchanged(run, x -> x.isSound());
        }
    }

    // ---- 38 digest

    /** The exact number, not wrapped: as the document tells it, from the answers of the face. */
    private static BigInteger exactDigest(Run run) {
        Endlessrows x = new Endlessrows();
        run.on(x);
        BigInteger d = BigInteger.valueOf(7980);
        for (int what = 0; what <= 5; what++) {
            d = next(d, x.house(what));
        }
        for (int row = 0; row < 6; row++) {
            d = next(d, x.rowSize(row));
            for (int place = 0; place < x.rowSize(row); place++) {
                d = next(d, x.rowAt(row, place));
            }
        }
        for (int well = 0; well < 5; well++) {
            for (int what = 0; what <= 9; what++) {
                d = next(d, x.ofWell(well, what));
            }
            d = next(d, x.peek(well));
        }
        return next(d, x.isSound() ? 1 : 0);
    }

    private static BigInteger next(BigInteger d, int v) {
        return d.multiply(BigInteger.valueOf(31)).add(BigInteger.valueOf(v));
    }

    @Says(promise = 38, words = "which wraps around as a 64-bit integer")
    private static void digestWrapsAround() {
        Run[] runs = {NOTHING, HOUSE, DRY_HOUSE, MERGED, CLOSED, ALL_TOLD, ALL_CLOSED, HUNDRED_TOLD, primes(1),
            x -> x.knock(), x -> x.add(5, 0), x -> x.add(0, 999)};
        int below = 0;
        int above = 0;
        for (Run run : runs) {
            BigInteger exact = exactDigest(run);
            // Far from a long: it wraps around some fifty times, and may be less than 0 then.
            due(true, run, x -> exact.bitLength() > 300);
            due(exact.longValue(), run, x -> x.digest());
            below += exact.longValue() < 0 ? 1 : 0;
            above += exact.longValue() > 0 ? 1 : 0;
        }
        String signs = below + " " + above;
        due(true, NOTHING, x -> !signs.startsWith("0 ") && !signs.endsWith(" 0"));
    }

    @Says(promise = 38, words = "A number d starts with 7980")
    private static void digestOfNewObject() {
        // 7980 * 31^68 with what the answers add, modulo 2^64.
        due(-1838567682909939849L, NOTHING, x -> x.digest());
    }

    @Says(promise = 38, words = "Returns d.")
    private static void digestChangesNothing() {
        changesNothing(x -> x.digest());
        due(true, HOUSE, x -> x.digest() == x.digest());
    }

    @Says(promise = 38, words = "for each v in this order: house() of 0 to 5; ROW by ROW rowSize() and its numbers; WELL by WELL ofWell() of 0 to 9, and peek(); 1 if isSound(), otherwise 0.")
    private static void digestAsksAll() {
        Run[] changes = {x -> x.knock(), x -> x.add(2, 0), x -> x.cut(5), x -> x.draw(1), x -> x.close(0, 3),
            x -> x.drop(2), x -> x.powers(4, 1), x -> x.draw(3), x -> x.copy(1, 0)};
        for (Run change : changes) {
            long before = exactDigest(HOUSE).longValue();
            due(true, inTurn(HOUSE, change), x -> x.digest() != before);
            due(exactDigest(inTurn(HOUSE, change)).longValue(), inTurn(HOUSE, change), x -> x.digest());
        }
    }

    public static void main(String[] args) {
        runAll(EdgesOfQuestionsTest.class, 26, 38);
    }
}
