/** The edges of the part ahead of the promises: rows, courses, PARENT, WAITING, DRY and LIMIT. */
public final class EdgesOfCoursesTest extends Edges {
    /** Triples of 3 * 5 * 7 = 105 ENTRIES in the well 0. */
    private static final Run OVER_HUNDRED = x -> {
        x.fill(0, 1, 7, 3);
        x.fill(1, 2, 5, 5);
        x.fill(2, 0, 3, 7);
        x.triples(0, 0, 1, 2);
    };

    /** Triples of 4 * 5 * 5 = 100 ENTRIES in the well 0. */
    private static final Run JUST_HUNDRED = x -> {
        x.fill(0, 1, 7, 4);
        x.fill(1, 2, 5, 5);
        x.triples(0, 0, 1, 1);
    };

    private static Run merged(boolean isFalling) {
        return x -> {
            put(x, 0, 3, 3, 5);
            put(x, 2, 3, 4);
            put(x, 5, 3, 3);
            x.merge(0, 37, isFalling);
        };
    }

    private static Run powersTold(int set, int many) {
        return x -> {
            x.powers(0, set);
            drawTimes(x, 0, many);
        };
    }

    private static Run primesTold(int many) {
        return x -> {
            x.primes(0);
            drawTimes(x, 0, many);
        };
    }

    /** How many of the well 0 wait, and how many of them up to each of these numbers. */
    private static String waiting(Endlessrows x, int... numbers) {
        StringBuilder line = new StringBuilder().append(x.ofWell(0, 2));
        for (int number : numbers) {
            line.append(' ').append(x.waits(0, number));
        }
        return line.toString();
    }

    /** Which places wait of the well 0, which has places below 3. */
    private static String placesWaiting(Endlessrows x, int thirds) {
        StringBuilder line = new StringBuilder();
        for (int places = 0; places < 9 * thirds; places++) {
            int a = places / (3 * thirds);
            int b = places / thirds % 3;
            int c = places % thirds;
            if (x.isWaiting(0, a, b, c) == 1) {
                line.append(line.length() == 0 ? "" : " ").append(a).append(b).append(thirds == 1 ? "" : c);
            }
        }
        return line.toString();
    }

    private static boolean isProductOf(int number, int set) {
        int[] primes = {2, 3, 5, 7, 11, 13};
        int left = number;
        for (int i = 0; i < primes.length; i++) {
            while ((set & 1 << i) != 0 && left % primes[i] == 0) {
                left /= primes[i];
            }
        }
        return left == 1;
    }

    // ---- ahead of the rows

    @Says(promise = 0, words = "A method that throws an exception changes nothing.")
    private static void whatThrowsChangesNothing() {
        Call[] bounds = {x -> x.add(6, 0), x -> x.cut(6), x -> x.clear(6), x -> x.fill(6, 0, 0, 1), x -> x.rowAt(0, 8),
            x -> x.rowSize(6), x -> x.rowText(6), x -> x.powers(5, 1), x -> x.sums(0, 0, 6), x -> x.triples(0, 0, 0, 6),
            x -> x.merge(5, 1, true), x -> x.table(0, 0, 6), x -> x.primes(5), x -> x.draw(5), x -> x.draws(5, 1),
            x -> x.skip(5, 1), x -> x.copy(0, 5), x -> x.shake(5), x -> x.anew(5), x -> x.again(5), x -> x.close(0, 6),
            x -> x.drop(5), x -> x.peek(5), x -> x.ofWell(5, 0), x -> x.nth(5, 0), x -> x.upTo(5, 0), x -> x.ways(5, 0),
            x -> x.waits(5, 0), x -> x.isWaiting(5, 0, 0, 0), x -> x.total(5, 1), x -> x.text(5), x -> x.isAlike(0, 5)};
        for (Call call : bounds) {
            outOfBounds(HOUSE, call);
            outOfBounds(DRY_HOUSE, call);
            outOfBounds(NOTHING, call);
        }
        Call[] numbers = {x -> x.add(0, 1000), x -> x.fill(0, 0, 0, 9), x -> x.least(64, 0), x -> x.powers(0, 64),
            x -> x.merge(0, 64, true), x -> x.draws(0, 21), x -> x.skip(0, 1000001), x -> x.ofWell(0, 10),
            x -> x.nth(0, 100), x -> x.upTo(0, 1000001), x -> x.ways(0, 1000001), x -> x.waits(0, 1000001),
            x -> x.total(0, 21), x -> x.house(6)};
        for (Call call : numbers) {
            illegal(HOUSE, call);
            illegal(DRY_HOUSE, call);
            illegal(NOTHING, call);
        }
    }

    @Says(promise = 0, words = "If several exceptions apply, the one that is named first is thrown")
    private static void whatIsNamedFirstIsThrown() {
        Call[] calls = {x -> x.add(6, 1000), x -> x.fill(6, 100, 100, 9), x -> x.powers(5, 64),
            x -> x.merge(5, 64, false), x -> x.draws(5, 21), x -> x.skip(5, -1), x -> x.ofWell(5, 10),
            x -> x.nth(5, 100), x -> x.upTo(5, -1), x -> x.ways(5, -1), x -> x.waits(5, -1), x -> x.total(5, 21)};
        for (Call call : calls) {
            outOfBounds(HOUSE, call);
        }
    }

    @Says(promise = 0, words = "exceptions go ahead of REFUSED.")
    private static void exceptionsGoAheadOfRefused() {
        Call[] ofAnEmptyWell = {x -> x.draws(4, 0), x -> x.skip(4, -1), x -> x.nth(4, -1), x -> x.upTo(4, -1),
            x -> x.ways(4, -1), x -> x.waits(4, -1), x -> x.total(4, 0)};
        for (Call call : ofAnEmptyWell) {
            illegal(HOUSE, call);
        }
        outOfBounds(HOUSE, x -> x.close(4, 6));
        illegal(HOUSE, x -> x.add(1, 1000));
        illegal(HOUSE, x -> x.upTo(3, 1000001));
        illegal(HOUSE, x -> x.ways(3, 1000001));
    }

    // ---- 1. Rows

    @Says(promise = 0, words = "have at most 8 numbers of 0 to 999 each")
    private static void rowsHaveAtMostEight() {
        Run nine = x -> {
            for (int i = 0; i < 9; i++) {
                x.add(5, 999);
            }
        };
        due("999 999 999 999 999 999 999 999", nine, x -> x.rowText(5));
        due("0 0 0 0 0 0 0 0", inTurn(x -> x.fill(0, 0, 0, 8), x -> x.add(0, 0)), x -> x.rowText(0));
    }

    @Says(promise = 0, words = "none is less than the one ahead of it")
    private static void rowsDoNotFall() {
        due("5 5 6", x -> put(x, 0, 5, 4, 5, 6, 5), x -> x.rowText(0));
    }

    @Says(promise = 0, words = "A SET of ROWS is the sum of 2^r for each ROW r in it, 1 to 63.")
    private static void setsOfRows() {
        Run each = x -> {
            for (int row = 0; row < 6; row++) {
                x.add(row, 10 + row);
            }
        };
        for (int r = 0; r < 6; r++) {
            int row = r;
            due("1 " + (10 + row), each, x -> x.merge(0, 1 << row, false) + " " + x.text(0));
            due(10 + row, each, x -> x.least(1 << row, 0));
            due(NONE, each, x -> x.least(1 << row, 1));
        }
        due("6 10 11 12 13 14 15", each, x -> x.merge(0, 63, false) + " " + x.text(0));
        due("2 10 15", each, x -> x.merge(0, 33, false) + " " + x.text(0));
        due(15, each, x -> x.least(33, 1));
    }

    @Says(promise = 0, words = "A SET of PRIMES: likewise 1 for 2, 2 for 3, 4 for 5, 8 for 7, 16 for 11, 32 for 13; 1 to 63.")
    private static void setsOfPrimes() {
        String[] texts = {"1 2 4 8 16 32 64 128", "1 3 9 27 81 243 729 2187", "1 5 25 125 625 3125 15625 78125",
            "1 7 49 343 2401 16807", "1 11 121 1331 14641", "1 13 169 2197 28561"};
        for (int i = 0; i < 6; i++) {
            int prime = i;
            due(texts[prime], powersTold(1 << prime, 0), x -> x.text(0));
        }
        due("1 2 3 4 5 6 7 8", powersTold(63, 0), x -> x.text(0));
        due("1 2 4 8 13 16 26 32", powersTold(33, 0), x -> x.text(0));
    }

    // ---- 2. Wells: what was told as they began, and the order

    @Says(promise = 0, words = "ROWS as they were then (what becomes of these later does not matter)")
    private static void rowsAsTheyWereThen() {
        Run begin = x -> {
            x.fill(0, 1, 2, 3);
            x.fill(1, 2, 3, 8);
            x.sums(0, 0, 1);
            x.triples(1, 0, 1, 0);
            x.merge(2, 63, true);
            x.table(3, 1, 0);
            x.copy(1, 4);
        };
        Run later = inTurn(begin, x -> {
            x.cut(0);
            x.clear(1);
            x.fill(1, 50, 1, 8);
            x.add(2, 4);
            x.fill(5, 0, 0, 8);
        });
        Run told = x -> {
            for (int well = 0; well < 5; well++) {
                x.draws(well, 9);
            }
        };
        for (int well = 0; well < 5; well++) {
            sameWells(begin, well, later, well);
            sameWells(inTurn(begin, told), well, inTurn(later, told), well);
        }
    }

    @Says(promise = 0, words = "The order: the lesser number is ahead")
    private static void lesserNumberIsAhead() {
        Run rows = x -> {
            put(x, 0, 0, 1, 3);
            put(x, 1, 2, 4);
        };
        due("2@0,0 3@1,0 4@0,1 5@1,1 5@2,0 7@2,1", inTurn(rows, x -> x.sums(0, 0, 1)), x -> told(x, 0, 6));
        due("0@0,0 0@0,1 2@1,0 4@1,1 6@2,0 12@2,1", inTurn(rows, x -> x.table(0, 0, 1)), x -> told(x, 0, 6));
        due("0@0,0 1@0,1 2@1,0 3@0,2 4@1,1", inTurn(rows, x -> x.merge(0, 3, false)), x -> told(x, 0, 5));
    }

    @Says(promise = 0, words = "of likes that with the lesser first PLACE, then with the lesser second one, then with the lesser third one.")
    private static void likesByPlaces() {
        Run likes = x -> {
            x.fill(0, 1, 0, 2);
            x.fill(1, 2, 0, 2);
            x.fill(2, 0, 0, 2);
        };
        due("3@0,0 3@0,1 3@1,0 3@1,1", inTurn(likes, x -> x.sums(0, 0, 1)), x -> told(x, 0, 4));
        due("2@0,0 2@0,1 2@1,0 2@1,1", inTurn(likes, x -> x.table(0, 0, 1)), x -> told(x, 0, 4));
        due("3@0,0,0 3@0,0,1 3@0,1,0 3@0,1,1 3@1,0,0 3@1,0,1 3@1,1,0 3@1,1,1",
            inTurn(likes, x -> x.triples(0, 0, 1, 2)), x -> told(x, 0, 8));
        due("3@0,0 3@0,1 3@2,0 3@5,0 3@5,1 4@2,1 5@0,2", merged(false), x -> told(x, 0, 7));
    }

    // ---- the courses

    @Says(promise = 0, words = "an ENTRY for each number of 1 to 100000 that is 1 or a product of primes of the SET alone")
    private static void powersReachFromOneToHundredThousand() {
        int[] counts = {17, 11, 8, 6, 5, 5};
        for (int i = 0; i < 6; i++) {
            int prime = i;
            due(counts[prime], powersTold(1 << prime, 0), x -> x.upTo(0, 1000000));
        }
        due("0 1 1", powersTold(63, 0), x -> x.upTo(0, 0) + " " + x.upTo(0, 1) + " " + x.ways(0, 1));
        due("1 0", powersTold(5, 0), x -> x.ways(0, 100000) + " " + x.ways(0, 102400));
        // 100100 is 2 * 2 * 5 * 5 * 7 * 11 * 13, the next one of all.
        due("1 0 0", powersTold(63, 0), x -> x.ways(0, 100000) + " " + x.ways(0, 100100) + " " + x.ways(0, 99999));
        due("1 0 0", powersTold(1, 0), x -> x.ways(0, 65536) + " " + x.ways(0, 6) + " " + x.ways(0, 131072));
        due("65536", powersTold(1, 16), x -> x.text(0));
        for (int set : new int[] {3, 20, 42, 63}) {
            int many = 0;
            for (int number = 1; number <= 100000; number++) {
                many += isProductOf(number, set) ? 1 : 0;
            }
            due(many, powersTold(set, 0), x -> x.upTo(0, 100000));
            due(many, powersTold(set, 0), x -> x.upTo(0, 1000000));
        }
    }

    @Says(promise = 0, words = "KIND 1, SUMS of two ROWS (they may be the same)")
    private static void sumsFromLeastToMost() {
        due("2 3 3 4 5 5 6 6", x -> put(x, 0, 1, 2, 4), x -> x.sums(0, 0, 0) == 1 ? x.text(0) : "");
        Run full = inTurn(x -> x.fill(1, 99, 99, 8), x -> x.sums(0, 1, 1));
        due("64 63 0", full, x -> x.upTo(0, 1584) + " " + x.upTo(0, 1583) + " " + x.upTo(0, 197));
        Run greatest = x -> put(x, 1, 999, 999, 999, 999, 999, 999, 999, 999);
        due("64 0", inTurn(greatest, x -> x.sums(0, 1, 1)), x -> x.ways(0, 1998) + " " + x.upTo(0, 1997));
        due("1 0", inTurn(x -> x.add(2, 0), x -> x.sums(0, 2, 2)), x -> x.ways(0, 0) + " " + x.ways(0, 1));
    }

    @Says(promise = 0, words = "KIND 2, TRIPLES of three ROWS: likewise the sum of three numbers at i, j and k")
    private static void triplesFromLeastToMost() {
        Run greatest = x -> put(x, 1, 999, 999, 999, 999, 999, 999, 999, 999);
        due("512 0", inTurn(greatest, x -> x.triples(0, 1, 1, 1)), x -> x.ways(0, 2997) + " " + x.upTo(0, 2996));
        due("1 1 0", inTurn(x -> x.add(2, 0), x -> x.triples(0, 2, 2, 2)),
            x -> x.ofWell(0, 2) + " " + x.ways(0, 0) + " " + x.ways(0, 1));
    }

    @Says(promise = 0, words = "KIND 3, MERGED, of a SET of ROWS: for each number of each of these ROWS an ENTRY with that number")
    private static void mergedFromNoneToMost() {
        Run all = x -> {
            for (int row = 0; row < 6; row++) {
                x.fill(row, row, 6, 8);
            }
        };
        due("48 48 47 1", inTurn(all, x -> x.merge(0, 63, true)),
            x -> x.upTo(0, 1000000) + " " + x.upTo(0, 47) + " " + x.upTo(0, 46) + " " + x.upTo(0, 0));
        due(0, x -> x.merge(0, 63, true), x -> x.upTo(0, 1000000));
    }

    @Says(promise = 0, words = "of likes that of the greater ROW is ahead (in one ROW that with the lesser place nevertheless).")
    private static void fallingTurnsTheRowsAlone() {
        due("3@5,0 3@5,1 3@2,0 3@0,0 3@0,1 4@2,1 5@0,2", merged(true), x -> told(x, 0, 7));
        due("3@5,0 3@5,1", inTurn(merged(true), x -> x.anew(0)), x -> told(x, 0, 2));
        due("3@2,0 3@0,0", inTurn(merged(true), x -> x.close(0, 5)), x -> told(x, 0, 2));
        due("3@5,0 3@5,1", inTurn(merged(true), x -> x.copy(0, 1)), x -> told(x, 1, 2));
    }

    @Says(promise = 0, words = "KIND 4, a TABLE of two ROWS: as SUMS, with the product in place of the sum.")
    private static void tableFromLeastToMost() {
        Run greatest = x -> put(x, 1, 999, 999, 999, 999, 999, 999, 999, 999);
        due("64 0", inTurn(greatest, x -> x.table(0, 1, 1)), x -> x.ways(0, 998001) + " " + x.upTo(0, 998000));
        due("998001", inTurn(x -> x.add(0, 999), x -> x.table(0, 0, 0)), x -> x.text(0));
        Run zeros = x -> {
            put(x, 0, 0, 0, 2);
            put(x, 1, 0, 5);
            x.table(0, 0, 1);
        };
        due("0@0,0 0@0,1 0@1,0 0@1,1 0@2,0 10@2,1", zeros, x -> told(x, 0, 6));
        due("5 6", zeros, x -> x.ways(0, 0) + " " + x.upTo(0, 10));
    }

    @Says(promise = 0, words = "KIND 5, PRIMES: an ENTRY for each prime from 2 on; no PLACES.")
    private static void primesFromTwoOn() {
        due("2 3 5 7 11 13 17 19", x -> x.primes(0), x -> x.text(0));
        due("0 1 0 1", x -> x.primes(0),
            x -> x.upTo(0, 1) + " " + x.upTo(0, 2) + " " + x.ways(0, 1) + " " + x.ways(0, 2));
        due("2 541", x -> x.primes(0), x -> x.nth(0, 0) + " " + x.nth(0, 99));
        due("5 3 3 5 -1 -1 -1 0 3 0", primesTold(3), x -> ofWell(x, 0));
        for (int n = 0; n <= 600; n += 3) {
            int number = n;
            boolean isPrime = number > 1;
            for (int divisor = 2; divisor < number; divisor++) {
                isPrime &= number % divisor != 0;
            }
            due(isPrime ? 1 : 0, x -> x.primes(0), x -> x.ways(0, number));
        }
    }

    // ---- PARENT and WAITING

    @Says(promise = 0, words = "POWERS: of a number above 1 that number divided by the greatest prime that divides it.")
    private static void parentsOfPowers() {
        due("1 0 1", powersTold(3, 0), x -> waiting(x, 0, 1));
        due("2 0 1 2", powersTold(3, 1), x -> waiting(x, 1, 2, 3));
        // 6 waits for 2, not for 3.
        due("3 0 1 2 2 3", powersTold(3, 2), x -> waiting(x, 2, 3, 4, 5, 6));
        due("3 1 2 2 3", powersTold(3, 3), x -> waiting(x, 4, 6, 8, 9));
        due("4 1 2 3 3 4", powersTold(3, 4), x -> waiting(x, 6, 8, 9, 11, 12));
        due("4 1 2 3 3 4", powersTold(3, 5), x -> waiting(x, 8, 9, 12, 17, 18));
    }

    @Says(promise = 0, words = "for each number of 1 to 100000")
    private static void powersWaitUpToHundredThousand() {
        due("1 1", powersTold(1, 16), x -> waiting(x, 65536));
        due("0 0", powersTold(1, 17), x -> waiting(x, 1000000));
        due("1 1 0", powersTold(32, 4), x -> waiting(x, 28561, 28560));
        due("0", powersTold(32, 5), x -> waiting(x));
        Run allButOne = x -> {
            x.powers(0, 5);
            drawTimes(x, 0, 70);
            x.skip(0, 100000);
        };
        due("1 0 1", allButOne, x -> waiting(x, 99999, 100000));
        due("100000 1 0", allButOne, x -> x.draw(0) + " " + x.ofWell(0, 7) + " " + x.ofWell(0, 2));
    }

    @Says(promise = 0, words = "SUMS and TABLE: of i, j that with i, j - 1, if j is above 0; otherwise that with i - 1, 0, if i is above 0.")
    private static void parentsOfSumsAndTables() {
        Run byFirst = x -> {
            put(x, 0, 1, 2, 3);
            put(x, 1, 10, 20);
            x.sums(0, 0, 1);
        };
        String[] due = {"00", "01 10", "01 11 20", "01 11 21", "11 21", "21", ""};
        for (int i = 0; i < due.length; i++) {
            int many = i;
            due(due[many], inTurn(byFirst, x -> drawTimes(x, 0, many)), x -> placesWaiting(x, 1));
        }
        Run bySecond = x -> {
            put(x, 0, 10, 20);
            put(x, 1, 1, 2, 3);
            x.sums(0, 0, 1);
        };
        String[] dueBySecond = {"00", "01 10", "02 10", "10", "11", "12", ""};
        for (int i = 0; i < dueBySecond.length; i++) {
            int many = i;
            due(dueBySecond[many], inTurn(bySecond, x -> drawTimes(x, 0, many)), x -> placesWaiting(x, 1));
        }
        Run table = inTurn(byFirst, x -> x.table(0, 0, 1));
        String[] dueOfTable = {"00", "01 10", "10", "11 20", "11 21", "21", ""};
        for (int i = 0; i < dueOfTable.length; i++) {
            int many = i;
            due(dueOfTable[many], inTurn(table, x -> drawTimes(x, 0, many)), x -> placesWaiting(x, 1));
        }
    }

    @Says(promise = 0, words = "TRIPLES: of i, j, k that with i, j, k - 1, if k is above 0; otherwise that with i, j - 1, 0, if j is above 0; otherwise that with i - 1, 0, 0, if i is above 0.")
    private static void parentsOfTriples() {
        Run byFirst = x -> {
            put(x, 0, 0, 1);
            put(x, 1, 0, 10);
            put(x, 2, 0, 100);
            x.triples(0, 0, 1, 2);
        };
        String[] due = {"000", "001 010 100", "001 010 101 110", "001 011 101 110", "001 011 101 111", "011 101 111",
            "011 111", "111", ""};
        for (int i = 0; i < due.length; i++) {
            int many = i;
            due(due[many], inTurn(byFirst, x -> drawTimes(x, 0, many)), x -> placesWaiting(x, 3));
        }
        Run byThird = inTurn(byFirst, x -> x.triples(0, 2, 1, 0));
        String[] dueByThird = {"000", "001 010 100", "010 100", "011 100", "100", "101 110", "110", "111", ""};
        for (int i = 0; i < dueByThird.length; i++) {
            int many = i;
            due(dueByThird[many], inTurn(byThird, x -> drawTimes(x, 0, many)), x -> placesWaiting(x, 3));
        }
    }

    @Says(promise = 0, words = "MERGED: of one at a place above 0 that with the same ROW and the place less 1.")
    private static void parentsOfMerged() {
        String[] due = {"00 20 50", "01 20 50", "02 20 50", "02 21 50", "02 21 51", "02 21", "02", ""};
        for (int i = 0; i < due.length; i++) {
            int many = i;
            due(due[many], inTurn(merged(false), x -> drawTimes(x, 0, many)), x -> {
                StringBuilder line = new StringBuilder();
                for (int places = 0; places < 18; places++) {
                    if (x.isWaiting(0, places / 3, places % 3, 0) == 1) {
                        line.append(line.length() == 0 ? "" : " ").append(places / 3).append(places % 3);
                    }
                }
                return line.toString();
            });
        }
    }

    @Says(promise = 0, words = "WAITING of the KINDS 0 to 4: all ENTRIES that were not told, and that have no PARENT, or one that was told (but none of CLOSED rows).")
    private static void nothingOfClosedRowsWaits() {
        Run closed = inTurn(merged(false), x -> {
            x.draw(0);
            x.close(0, 0);
        });
        due("2 2 0 0 0", closed, x -> waiting(x, 3) + " " + x.isWaiting(0, 0, 0, 0) + " " + x.isWaiting(0, 0, 1, 0)
            + " " + x.isWaiting(0, 0, 2, 0));
        due("3@2,0 3@5,0 3@5,1 4@2,1 -9@2,1", closed, x -> told(x, 0, 5));
    }

    @Says(promise = 0, words = "for each prime p that was told the least multiple of p that is p * p or more, and above the LAST.")
    private static void multiplesThatWait() {
        due("0 0", primesTold(0), x -> waiting(x, 1000000));
        due("1 0 1", primesTold(1), x -> waiting(x, 3, 4));
        due("2 0 1 1 2", primesTold(2), x -> waiting(x, 3, 4, 8, 9));
        due("3 0 1 1 2 2 3", primesTold(3), x -> waiting(x, 5, 6, 8, 9, 24, 25));
        due("4 0 1 2 3 3 4", primesTold(4), x -> waiting(x, 7, 8, 9, 25, 48, 49));
        // 23 is told: 24 for 2 and 3, 25 for 5; behind 29 it is 30 for all of them, and 49 for 7.
        due("9 0 2 3 3 4", primesTold(9), x -> waiting(x, 23, 24, 25, 48, 49));
        due("10 0 3 3 4", primesTold(10), x -> waiting(x, 29, 30, 48, 49));
        // 48 behind 47 is of 2 and 3 alone, behind 53 it is 56 for 7.
        due("15 0 2 3 4 4 5", primesTold(15), x -> waiting(x, 47, 48, 49, 50, 120, 121));
        due("16 0 2 3 4", primesTold(16), x -> waiting(x, 53, 54, 55, 56));
        due("100 0 1 2 99 100", inTurn(x -> x.primes(0), x -> drawAll(x, 0)),
            x -> waiting(x, 541, 542, 543, 292680, 292681));
    }

    @Says(promise = 0, words = "(SIZE and waits() count these multiples, each for its prime: two may be the same number. Nothing asks for PLACES of them.)")
    private static void likeMultiplesCountEach() {
        // 11 is told: 12 for 2 and for 3.
        due("5 0 2", primesTold(5), x -> waiting(x, 11, 12));
        due("5 5", primesTold(5), x -> x.ofWell(0, 2) + " " + x.waits(0, 1000000));
        due(REFUSED, primesTold(5), x -> x.isWaiting(0, 0, 0, 0));
        due(5, primesTold(5), x -> x.house(3));
    }

    // ---- DRY, DRAWN, LAST, CLOSED

    @Says(promise = 0, words = "A WELL is DRY, if it has told 100 ENTRIES")
    private static void dryAtHundredTold() {
        for (Run begin : new Run[] {OVER_HUNDRED, JUST_HUNDRED, x -> x.primes(0), x -> x.powers(0, 63)}) {
            Run nearly = inTurn(begin, x -> {
                drawTimes(x, 0, 19);
                for (int i = 0; i < 4; i++) {
                    x.draws(0, 20);
                }
            });
            due("99 0", nearly, x -> x.ofWell(0, 1) + " " + x.ofWell(0, 7));
            due(true, nearly, x -> x.peek(0) == x.nth(0, 99));
            due(true, nearly, x -> x.nth(0, 99) == x.draw(0));
            due("1 100 1", nearly, x -> x.draws(0, 1) + " " + x.ofWell(0, 1) + " " + x.ofWell(0, 7));
            refused(inTurn(nearly, x -> x.draw(0)), x -> x.draw(0));
        }
    }

    @Says(promise = 0, words = "or all of its COURSE (but those of CLOSED rows).")
    private static void dryWithAllTold() {
        Run told = inTurn(merged(false), x -> drawTimes(x, 0, 6));
        due("0 1 5", told, x -> x.ofWell(0, 7) + " " + x.ofWell(0, 2) + " " + x.peek(0));
        due("5 1 0 -9", told, x -> x.draw(0) + " " + x.ofWell(0, 7) + " " + x.ofWell(0, 2) + " " + x.peek(0));
        due("1 1 -9", told, x -> x.close(0, 0) + " " + x.ofWell(0, 7) + " " + x.peek(0));
        Run closed = inTurn(merged(false), x -> {
            x.close(0, 0);
            x.close(0, 5);
        });
        due("3@2,0 4@2,1 1", closed, x -> told(x, 0, 2) + " " + x.ofWell(0, 7));
        due("1 0", inTurn(closed, x -> x.close(0, 2)), x -> x.ofWell(0, 7) + " " + x.ofWell(0, 1));
        // A course of nothing is told to its end at once.
        due("1 0 0", x -> x.merge(0, 63, false), x -> x.ofWell(0, 7) + " " + x.ofWell(0, 2) + " " + x.ofWell(0, 1));
        due(1, x -> x.table(0, 0, 0), x -> x.ofWell(0, 7));
    }

    @Says(promise = 0, words = "(With 100 told it is DRY though some may still be WAITING: these stay, but are not told.)")
    private static void someWaitBehindAHundred() {
        Run dry = inTurn(OVER_HUNDRED, x -> drawAll(x, 0));
        // Not told are 48, 49, 50, 52 and 55; the last two have a PARENT that was not told.
        due("2 100 3 47 2 3 5 1 15 0", dry, x -> ofWell(x, 0));
        due("3 0 1 2 3", dry, x -> waiting(x, 47, 48, 49, 50));
        due("1 1 1 0 0", dry, x -> x.isWaiting(0, 1, 4, 6) + " " + x.isWaiting(0, 2, 4, 4) + " "
            + x.isWaiting(0, 2, 3, 6) + " " + x.isWaiting(0, 2, 4, 5) + " " + x.isWaiting(0, 2, 4, 6));
        refused(dry, x -> x.draw(0));
        due(0, dry, x -> x.draws(0, 20));
        unchanged(dry, x -> x.draws(0, 20));
        due(0, dry, x -> x.skip(0, 1000000));
        unchanged(dry, x -> x.skip(0, 1000000));
        due("-9 0 ", dry, x -> x.peek(0) + " " + x.total(0, 20) + " " + x.text(0));
        Run none = inTurn(JUST_HUNDRED, x -> drawAll(x, 0));
        due("1 0", none, x -> x.ofWell(0, 7) + " " + x.ofWell(0, 2));
    }

    @Says(promise = 0, words = "DRAWN: how many it has told since it began (again).")
    private static void drawnCountsSinceItBegan() {
        Run told = inTurn(merged(false), x -> {
            x.draw(0);
            x.draws(0, 2);
            x.skip(0, 4);
        });
        due(5, told, x -> x.ofWell(0, 1));
        due(6, inTurn(told, x -> x.draw(0)), x -> x.ofWell(0, 1));
        due(7, inTurn(told, x -> x.draws(0, 20)), x -> x.ofWell(0, 1));
        due(0, inTurn(told, x -> x.anew(0)), x -> x.ofWell(0, 1));
        due(1, inTurn(told, x -> x.anew(0), x -> x.draw(0)), x -> x.ofWell(0, 1));
        due(5, inTurn(told, x -> x.again(0)), x -> x.ofWell(0, 1));
        due(0, inTurn(told, x -> x.merge(0, 1, false)), x -> x.ofWell(0, 1));
        due(5, inTurn(told, x -> x.draws(1, 20)), x -> x.ofWell(0, 1));
    }

    @Says(promise = 0, words = "LAST: the one that it told last, if DRAWN is above 0.")
    private static void lastIsNoneBeforeTheFirst() {
        due("3 0 3 -1 -1 -1 -1 0 3 0", merged(false), x -> ofWell(x, 0));
        due("3 1 3 3 0 0 -1 0 3 0", inTurn(merged(false), x -> x.draw(0)), x -> ofWell(x, 0));
        Run anew = inTurn(merged(false), x -> {
            x.draws(0, 4);
            x.anew(0);
        });
        due("3 0 3 -1 -1 -1 -1 0 3 0", anew, x -> ofWell(x, 0));
        due("2 0 1 -1 -1 -1 -1 0 1 0", JUST_HUNDRED, x -> ofWell(x, 0));
        // A LAST of 0 at the places 0, 0 and 0 is one.
        Run zero = x -> {
            x.add(0, 0);
            x.triples(0, 0, 0, 0);
            x.draw(0);
        };
        due("2 1 0 0 0 0 0 1 1 0", zero, x -> ofWell(x, 0));
    }

    @Says(promise = 0, words = "CLOSED rows of a MERGED WELL: those that close() has closed since it began (again).")
    private static void closedSinceItBegan() {
        Run closed = inTurn(merged(true), x -> {
            x.draw(0);
            x.close(0, 0);
            x.close(0, 5);
        });
        due(1, inTurn(merged(true), x -> x.close(0, 0)), x -> x.ofWell(0, 9));
        due(2, closed, x -> x.ofWell(0, 9));
        due(0, inTurn(closed, x -> x.anew(0)), x -> x.ofWell(0, 9));
        due(0, inTurn(closed, x -> x.merge(0, 37, true)), x -> x.ofWell(0, 9));
        due(0, inTurn(closed, x -> x.primes(0)), x -> x.ofWell(0, 9));
        due(0, inTurn(closed, x -> x.drop(0)), x -> x.ofWell(0, 9));
        due(2, inTurn(closed, x -> x.copy(0, 3)), x -> x.ofWell(3, 9));
        due(3, inTurn(closed, x -> x.close(0, 2)), x -> x.ofWell(0, 9));
        sameWells(merged(true), 0, inTurn(closed, x -> x.anew(0)), 0);
    }

    // ---- LIMIT

    /** LIMIT of the well 0 as it is, and behind each draw. */
    private static String limits(Endlessrows x, int many) {
        StringBuilder line = new StringBuilder().append(x.ofWell(0, 8));
        for (int i = 0; i < many; i++) {
            x.draw(0);
            line.append(' ').append(x.ofWell(0, 8));
        }
        return line.toString();
    }

    @Says(promise = 0, words = "LIMIT: POWERS: 1 and DRAWN times (how many primes the SET has, less 1) together.")
    private static void limitOfPowers() {
        due("1 1 1 1", powersTold(4, 0), x -> limits(x, 3));
        due("1 2 3 4", powersTold(40, 0), x -> limits(x, 3));
        due("1 6 11 16", powersTold(63, 0), x -> limits(x, 3));
        due(501, inTurn(x -> x.powers(0, 63), x -> drawAll(x, 0)), x -> x.ofWell(0, 8));
    }

    @Says(promise = 0, words = "SUMS and TABLE: the lesser one of DRAWN + 1 and how many numbers the first ROW has.")
    private static void limitOfSumsAndTables() {
        Run rows = x -> {
            x.fill(0, 1, 1, 3);
            x.fill(1, 1, 1, 8);
        };
        due("1 2 3 3 3", inTurn(rows, x -> x.sums(0, 0, 1)), x -> limits(x, 4));
        due("1 2 3 3 3", inTurn(rows, x -> x.table(0, 0, 1)), x -> limits(x, 4));
        due("1 2 3 4 5 6 7 8 8", inTurn(rows, x -> x.sums(0, 1, 0)), x -> limits(x, 8));
        due("1 2 3 4 5 6 7 8 8", inTurn(rows, x -> x.table(0, 1, 0)), x -> limits(x, 8));
        // The row 2 is empty.
        due("0 0", inTurn(rows, x -> x.sums(0, 2, 0)), x -> limits(x, 1));
        due("0 0", inTurn(rows, x -> x.table(0, 2, 0)), x -> limits(x, 1));
        due("1 1", inTurn(rows, x -> x.sums(0, 0, 2)), x -> limits(x, 1));
        due("1 1", inTurn(rows, x -> x.table(0, 0, 2)), x -> limits(x, 1));
    }

    @Says(promise = 0, words = "TRIPLES: the lesser one of 2 * DRAWN + 1 and (how many numbers the first ROW has times how many the second one has).")
    private static void limitOfTriples() {
        Run rows = x -> {
            x.fill(0, 1, 1, 2);
            x.fill(1, 1, 1, 3);
            x.fill(3, 1, 1, 1);
        };
        due("1 3 5 6 6", inTurn(rows, x -> x.triples(0, 0, 1, 1)), x -> limits(x, 4));
        due("1 3 4 4", inTurn(rows, x -> x.triples(0, 0, 0, 1)), x -> limits(x, 3));
        due("1 1 1", inTurn(rows, x -> x.triples(0, 3, 3, 1)), x -> limits(x, 2));
        due("0 0", inTurn(rows, x -> x.triples(0, 2, 0, 0)), x -> limits(x, 1));
        due("0 0", inTurn(rows, x -> x.triples(0, 0, 2, 0)), x -> limits(x, 1));
        due("1 1", inTurn(rows, x -> x.triples(0, 0, 0, 2)), x -> limits(x, 1));
    }

    @Says(promise = 0, words = "MERGED: how many ROWS the SET has.")
    private static void limitOfMerged() {
        due("6 6", x -> x.merge(0, 63, false), x -> limits(x, 1));
        due("1 1", x -> x.merge(0, 32, false), x -> limits(x, 1));
        due("3 3 3", merged(true), x -> limits(x, 2));
        due(3, inTurn(merged(true), x -> x.close(0, 0)), x -> x.ofWell(0, 8));
    }

    @Says(promise = 0, words = "PRIMES: DRAWN.")
    private static void limitOfPrimes() {
        due("0 1 2 3", x -> x.primes(0), x -> limits(x, 3));
        due(100, inTurn(x -> x.primes(0), x -> drawAll(x, 0)), x -> x.ofWell(0, 8));
    }

    public static void main(String[] args) {
        runAll(EdgesOfCoursesTest.class, 1, 0);
    }
}
