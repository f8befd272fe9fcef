/** The edges of promises 10 to 25: wells that begin, what is done with them, and knock. */
public final class EdgesOfWellsTest extends Edges {
    /** Rows 0 and 1 with three and two numbers, 3 full, 2, 4 and 5 empty. */
    private static final Run ROWS = x -> {
        put(x, 0, 1, 4, 9);
        put(x, 1, 2, 4);
        x.fill(3, 0, 1, 8);
    };

    private static final Run MERGED = inTurn(ROWS, x -> x.merge(0, 11, false));
    private static final Run CLOSED = inTurn(MERGED, x -> x.draws(0, 3), x -> x.close(0, 3));
    private static final Run ALL_TOLD = inTurn(ROWS, x -> x.merge(0, 3, false), x -> x.draws(0, 20));
    private static final Run HUNDRED_TOLD = inTurn(ROWS, x -> {
        x.triples(0, 3, 3, 3);
        drawAll(x, 0);
    });
    private static final Run ALL_CLOSED = inTurn(ROWS, x -> {
        x.merge(0, 3, true);
        x.draw(0);
        x.close(0, 0);
        x.close(0, 1);
    });
    private static final Run NOTHING_TO_TELL = x -> x.sums(0, 2, 4);
    private static final Run[] DRY = {ALL_TOLD, HUNDRED_TOLD, ALL_CLOSED, NOTHING_TO_TELL};

    private static Run powers(int set, int told) {
        return x -> {
            x.powers(0, set);
            drawTimes(x, 0, told);
        };
    }

    private static Run primes(int told) {
        return x -> {
            x.primes(0);
            drawTimes(x, 0, told);
        };
    }

    /** A begun well of each KIND at 0, with something told of it. */
    private static Run[] oneOfEachKind() {
        return new Run[] {powers(21, 9), inTurn(ROWS, x -> x.sums(0, 0, 3), x -> x.draws(0, 4)),
            inTurn(ROWS, x -> x.triples(0, 0, 1, 3), x -> x.draws(0, 7)),
            inTurn(ROWS, x -> x.merge(0, 11, true), x -> x.draws(0, 6)),
            inTurn(ROWS, x -> x.table(0, 3, 1), x -> x.draws(0, 5)), primes(9)};
    }

    /** Whatever a well had, it is behind the call as on an object with the same rows alone; the others stay. */
    private static void begins(int well, Run call) {
        for (Run house : new Run[] {HOUSE, DRY_HOUSE, inTurn(HOUSE, x -> x.copy(4, well))}) {
            Run rowsAlone = inTurn(house, x -> {
                for (int other = 0; other < 5; other++) {
                    x.drop(other);
                }
            });
            Run begun = inTurn(house, call);
            sameWells(inTurn(rowsAlone, call), well, begun, well);
            due(0, begun, x -> x.ofWell(well, 1) + x.ofWell(well, 9));
            for (int other = 0; other < 5; other++) {
                if (other != well) {
                    sameWells(house, other, begun, other);
                }
            }
        }
    }

    // ---- 10 powers

    @Says(promise = 10, words = "A WELL begins (whatever it had), with POWERS.")
    private static void powersBegin() {
        for (int w = 0; w < 5; w++) {
            int well = w;
            begins(well, x -> x.powers(well, 63));
        }
        due("0 0 1 -1 -1 -1 -1 0 1 0", CLOSED, x -> x.powers(0, 1) == 1 ? ofWell(x, 0) : "");
    }

    @Says(promise = 10, words = "Returns SIZE.")
    private static void powersTellSize() {
        due(1, NOTHING, x -> x.powers(0, 1));
        due(1, NOTHING, x -> x.powers(4, 63));
        due(1, HUNDRED_TOLD, x -> x.powers(0, 63));
    }

    @Says(promise = 10, words = "if well is not 0 to 4")
    private static void powersBoundsOfWell() {
        boundsAre(0, 4, HOUSE, (x, well) -> x.powers(well, 1));
        outOfBounds(HOUSE, x -> x.powers(5, 0));
        outOfBounds(HOUSE, x -> x.powers(-1, 64));
    }

    @Says(promise = 10, words = "if set is not 1 to 63")
    private static void powersBoundsOfSet() {
        legalAre(1, 63, HOUSE, (x, set) -> x.powers(0, set));
        legalAre(1, 63, HOUSE, (x, set) -> x.powers(4, set));
    }

    // ---- 11 sums

    @Says(promise = 11, words = "A WELL begins (whatever it had), with SUMS.")
    private static void sumsBegin() {
        for (int w = 0; w < 5; w++) {
            int well = w;
            begins(well, x -> x.sums(well, 0, 1));
        }
    }

    @Says(promise = 11, words = "Returns SIZE (0, if one of both ROWS is empty).")
    private static void sumsOfEmptyRows() {
        due(1, ROWS, x -> x.sums(0, 0, 1));
        due(1, ROWS, x -> x.sums(0, 3, 3));
        due(0, ROWS, x -> x.sums(0, 2, 1));
        due(0, ROWS, x -> x.sums(0, 1, 2));
        due(0, ROWS, x -> x.sums(0, 2, 4));
        due(0, ROWS, x -> x.sums(0, 2, 2));
        due("1 0 0 -1 -1 -1 -1 1 0 0", inTurn(HOUSE, x -> x.sums(0, 2, 1)), x -> ofWell(x, 0));
        due("1 0 0 -1 -1 -1 -1 1 1 0", inTurn(HOUSE, x -> x.sums(0, 1, 2)), x -> ofWell(x, 0));
    }

    @Says(promise = 11, words = "if well is not 0 to 4, or first or second not 0 to 5")
    private static void sumsBounds() {
        boundsAre(0, 4, HOUSE, (x, well) -> x.sums(well, 0, 1));
        boundsAre(0, 5, HOUSE, (x, row) -> x.sums(0, row, 1));
        boundsAre(0, 5, HOUSE, (x, row) -> x.sums(0, 0, row));
        boundsAre(0, 5, HOUSE, (x, row) -> x.sums(0, 2, row));
    }

    // ---- 12 triples

    @Says(promise = 12, words = "A WELL begins (whatever it had), with TRIPLES.")
    private static void triplesBegin() {
        for (int w = 0; w < 5; w++) {
            int well = w;
            begins(well, x -> x.triples(well, 0, 1, 3));
        }
    }

    @Says(promise = 12, words = "Returns SIZE (0, if one of the three ROWS is empty).")
    private static void triplesOfEmptyRows() {
        due(1, ROWS, x -> x.triples(0, 0, 1, 3));
        due(1, ROWS, x -> x.triples(0, 1, 1, 1));
        due(0, ROWS, x -> x.triples(0, 2, 1, 3));
        due(0, ROWS, x -> x.triples(0, 1, 2, 3));
        due(0, ROWS, x -> x.triples(0, 1, 3, 2));
        due(0, ROWS, x -> x.triples(0, 2, 2, 2));
        due("2 0 0 -1 -1 -1 -1 1 0 0", inTurn(HOUSE, x -> x.triples(0, 2, 1, 3)), x -> ofWell(x, 0));
        due("2 0 0 -1 -1 -1 -1 1 0 0", inTurn(HOUSE, x -> x.triples(0, 1, 2, 3)), x -> ofWell(x, 0));
        due("2 0 0 -1 -1 -1 -1 1 1 0", inTurn(HOUSE, x -> x.triples(0, 1, 3, 2)), x -> ofWell(x, 0));
    }

    @Says(promise = 12, words = "if well is not 0 to 4, or first, second or third not 0 to 5")
    private static void triplesBounds() {
        boundsAre(0, 4, HOUSE, (x, well) -> x.triples(well, 0, 1, 3));
        boundsAre(0, 5, HOUSE, (x, row) -> x.triples(0, row, 1, 3));
        boundsAre(0, 5, HOUSE, (x, row) -> x.triples(0, 1, row, 3));
        boundsAre(0, 5, HOUSE, (x, row) -> x.triples(0, 1, 3, row));
    }

    // ---- 13 merge

    @Says(promise = 13, words = "A WELL begins (whatever it had), MERGED.")
    private static void mergeBegins() {
        for (int w = 0; w < 5; w++) {
            int well = w;
            begins(well, x -> x.merge(well, 59, false));
        }
        begins(0, x -> x.merge(0, 63, true));
        // It was FALLING ahead of it, and is not any more.
        due("1@0,0 2@1,0 4@0,1 4@1,1", inTurn(ROWS, x -> x.merge(0, 3, true), x -> x.merge(0, 3, false)),
            x -> told(x, 0, 4));
        due("1@0,0 2@1,0 4@1,1 4@0,1", inTurn(ROWS, x -> x.merge(0, 3, false), x -> x.merge(0, 3, true)),
            x -> told(x, 0, 4));
    }

    @Says(promise = 13, words = "Returns SIZE.")
    private static void mergeTellsSize() {
        due(3, ROWS, x -> x.merge(0, 63, false));
        due(2, ROWS, x -> x.merge(0, 9, true));
        due(1, ROWS, x -> x.merge(0, 8, false));
        due(6, x -> {
            for (int row = 0; row < 6; row++) {
                x.fill(row, row, row, 1 + row);
            }
        }, x -> x.merge(0, 63, true));
    }

    @Says(promise = 13, words = "- `set`: a SET of ROWS (some may be empty)")
    private static void mergeOfEmptyRows() {
        due(0, NOTHING, x -> x.merge(0, 63, false));
        due(0, ROWS, x -> x.merge(0, 52, true));
        due("3 0 0 -1 -1 -1 -1 1 3 0", inTurn(ROWS, x -> x.merge(0, 52, true)), x -> ofWell(x, 0));
        due("3 0 1 -1 -1 -1 -1 0 4 0", inTurn(ROWS, x -> x.merge(0, 53, true)), x -> ofWell(x, 0));
    }

    @Says(promise = 13, words = "if well is not 0 to 4")
    private static void mergeBoundsOfWell() {
        boundsAre(0, 4, HOUSE, (x, well) -> x.merge(well, 1, false));
        outOfBounds(HOUSE, x -> x.merge(5, 0, true));
        outOfBounds(HOUSE, x -> x.merge(-1, 64, false));
    }

    @Says(promise = 13, words = "if set is not 1 to 63")
    private static void mergeBoundsOfSet() {
        legalAre(1, 63, HOUSE, (x, set) -> x.merge(0, set, false));
        legalAre(1, 63, HOUSE, (x, set) -> x.merge(4, set, true));
    }

    // ---- 14 table, 15 primes

    @Says(promise = 14, words = "A WELL begins (whatever it had), with a TABLE.")
    private static void tableBegins() {
        for (int w = 0; w < 5; w++) {
            int well = w;
            begins(well, x -> x.table(well, 0, 1));
        }
    }

    @Says(promise = 14, words = "Returns SIZE (0, if one of both ROWS is empty).")
    private static void tableOfEmptyRows() {
        due(1, ROWS, x -> x.table(0, 0, 1));
        due(1, ROWS, x -> x.table(0, 3, 3));
        due(0, ROWS, x -> x.table(0, 2, 1));
        due(0, ROWS, x -> x.table(0, 1, 2));
        due(0, ROWS, x -> x.table(0, 2, 4));
        due("4 0 0 -1 -1 -1 -1 1 0 0", inTurn(HOUSE, x -> x.table(0, 2, 1)), x -> ofWell(x, 0));
        due("4 0 0 -1 -1 -1 -1 1 1 0", inTurn(HOUSE, x -> x.table(0, 1, 2)), x -> ofWell(x, 0));
    }

    @Says(promise = 14, words = "if well is not 0 to 4, or first or second not 0 to 5")
    private static void tableBounds() {
        boundsAre(0, 4, HOUSE, (x, well) -> x.table(well, 0, 1));
        boundsAre(0, 5, HOUSE, (x, row) -> x.table(0, row, 1));
        boundsAre(0, 5, HOUSE, (x, row) -> x.table(0, 0, row));
        boundsAre(0, 5, HOUSE, (x, row) -> x.table(0, 2, row));
    }

    @Says(promise = 15, words = "A WELL begins (whatever it had), with PRIMES.")
    private static void primesBegin() {
        for (int w = 0; w < 5; w++) {
            int well = w;
            begins(well, x -> x.primes(well));
        }
        sameWells(primes(0), 0, inTurn(DRY_HOUSE, x -> x.primes(2)), 2);
    }

    @Says(promise = 15, words = "Returns SIZE (0).")
    private static void primesTellSize() {
        due(0, NOTHING, x -> x.primes(0));
        due(0, HUNDRED_TOLD, x -> x.primes(0));
        due(0, primes(30), x -> x.primes(0));
        due("5 0 0 -1 -1 -1 -1 0 0 0", primes(0), x -> ofWell(x, 0));
    }

    @Says(promise = 15, words = "if well is not 0 to 4")
    private static void primesBoundsOfWell() {
        boundsAre(0, 4, HOUSE, (x, well) -> x.primes(well));
    }

    // ---- 16 draw

    @Says(promise = 16, words = "The next ENTRY is told.")
    private static void drawTellsOne() {
        due("0 1 1 2 2 3 4 4 4 5 6 7 9 -9", MERGED, x -> told(x, 0, 14).replaceAll("@[0-9],[0-9]", ""));
        for (int w = 1; w < 5; w++) {
            int well = w;
            sameWells(HOUSE, well, inTurn(HOUSE, x -> x.draw(0)), well);
        }
    }

    @Says(promise = 16, words = "Returns its number; REFUSED, if the WELL is EMPTY or DRY.")
    private static void drawOfEmptyOrDryWellIsRefused() {
        refused(NOTHING, x -> x.draw(0));
        refused(HOUSE, x -> x.draw(4));
        for (Run dry : DRY) {
            refused(dry, x -> x.draw(0));
            refused(inTurn(dry, x -> x.draw(0)), x -> x.draw(0));
        }
        due("1 4 9 -9", inTurn(ROWS, x -> x.merge(0, 1, true)),
            x -> x.draw(0) + " " + x.draw(0) + " " + x.draw(0) + " " + x.draw(0));
        due(541, primes(99), x -> x.draw(0));
        due(REFUSED, primes(100), x -> x.draw(0));
    }

    @Says(promise = 16, words = "if well is not 0 to 4")
    private static void drawBoundsOfWell() {
        boundsAre(0, 4, DRY_HOUSE, (x, well) -> x.draw(well));
    }

    // ---- 17 draws

    @Says(promise = 17, words = "ENTRIES are told, one by one, till as many were told, or the WELL is DRY.")
    private static void drawsTellOneByOne() {
        for (Run begun : oneOfEachKind()) {
            sameWells(inTurn(begun, x -> x.draws(0, 1)), 0, inTurn(begun, x -> x.draw(0)), 0);
            sameWells(inTurn(begun, x -> x.draws(0, 20)), 0, inTurn(begun, x -> drawTimes(x, 0, 20)), 0);
        }
    }

    @Says(promise = 17, words = "Returns how many were told")
    private static void drawsEndWithTheWell() {
        // Of 13 ENTRIES.
        due(13, MERGED, x -> x.draws(0, 13));
        due(13, MERGED, x -> x.draws(0, 14));
        due(13, MERGED, x -> x.draws(0, 20));
        due(12, inTurn(MERGED, x -> x.draw(0)), x -> x.draws(0, 20));
        due(12, MERGED, x -> x.draws(0, 12));
        due(1, primes(99), x -> x.draws(0, 20));
        due(1, primes(99), x -> x.draws(0, 1));
        due(19, primes(81), x -> x.draws(0, 20));
        due(20, primes(80), x -> x.draws(0, 20));
        // Three were told, two of them of the row 3, which is closed: 2 4 4 9 are left.
        due(4, CLOSED, x -> x.draws(0, 20));
        for (Run dry : DRY) {
            due(0, dry, x -> x.draws(0, 1));
            unchanged(dry, x -> x.draws(0, 20));
        }
    }

    @Says(promise = 17, words = "REFUSED, if the WELL is EMPTY.")
    private static void drawsOfEmptyWellAreRefused() {
        refused(NOTHING, x -> x.draws(0, 1));
        refused(HOUSE, x -> x.draws(4, 20));
        refused(inTurn(MERGED, x -> x.drop(0)), x -> x.draws(0, 5));
    }

    @Says(promise = 17, words = "if well is not 0 to 4")
    private static void drawsBoundsOfWell() {
        boundsAre(0, 4, HOUSE, (x, well) -> x.draws(well, 1));
        outOfBounds(HOUSE, x -> x.draws(5, 0));
        outOfBounds(HOUSE, x -> x.draws(-1, 21));
    }

    @Says(promise = 17, words = "if times is not 1 to 20")
    private static void drawsBoundsOfTimes() {
        legalAre(1, 20, HOUSE, (x, times) -> x.draws(1, times));
        legalAre(1, 20, HOUSE, (x, times) -> x.draws(2, times));
        legalAre(1, 20, HOUSE, (x, times) -> x.draws(4, times));
    }

    // ---- 18 skip

    @Says(promise = 18, words = "as long as the number of the next one is less than the bound")
    private static void skipEndsAheadOfTheBound() {
        Run row = x -> {
            put(x, 0, 0, 0, 4, 4, 6, 900);
            x.merge(0, 1, false);
        };
        int[][] due = {{0, 0}, {1, 2}, {3, 2}, {4, 2}, {5, 4}, {6, 4}, {7, 5}, {900, 5}, {901, 6}, {1000000, 6}};
        for (int[] pair : due) {
            due(pair[1], row, x -> x.skip(0, pair[0]));
            sameWells(inTurn(row, x -> drawTimes(x, 0, pair[1])), 0, inTurn(row, x -> x.skip(0, pair[0])), 0);
        }
        Run greatest = inTurn(x -> x.add(0, 999), x -> x.table(0, 0, 0));
        due(0, greatest, x -> x.skip(0, 998001));
        due(1, greatest, x -> x.skip(0, 998002));
        due(0, primes(0), x -> x.skip(0, 2));
        due(1, primes(0), x -> x.skip(0, 3));
        unchanged(primes(1), x -> x.skip(0, 3));
    }

    @Says(promise = 18, words = "the WELL is not DRY")
    private static void skipEndsWithTheWell() {
        due(13, MERGED, x -> x.skip(0, 1000000));
        due(4, CLOSED, x -> x.skip(0, 1000000));
        due(1, primes(99), x -> x.skip(0, 1000000));
        due(19, primes(81), x -> x.skip(0, 1000000));
        for (Run dry : DRY) {
            due(0, dry, x -> x.skip(0, 1000000));
            unchanged(dry, x -> x.skip(0, 1000000));
        }
    }

    @Says(promise = 18, words = "and fewer than 20 were told by this call.")
    private static void skipTellsAtMostTwenty() {
        // 67 is the 19th prime, 71 the 20th, 73 the 21st.
        due(19, primes(0), x -> x.skip(0, 71));
        due(20, primes(0), x -> x.skip(0, 72));
        due(20, primes(0), x -> x.skip(0, 74));
        due(20, primes(0), x -> x.skip(0, 1000000));
        due("20 71 20 173", primes(0), x -> x.skip(0, 500) + " " + x.ofWell(0, 3) + " " + x.skip(0, 500) + " "
            + x.ofWell(0, 3));
        sameWells(primes(20), 0, inTurn(primes(0), x -> x.skip(0, 1000000)), 0);
    }

    @Says(promise = 18, words = "Returns how many were told; REFUSED, if the WELL is EMPTY.")
    private static void skipOfEmptyWellIsRefused() {
        refused(NOTHING, x -> x.skip(0, 0));
        refused(HOUSE, x -> x.skip(4, 1000000));
        due(0, MERGED, x -> x.skip(0, 0));
        due(1, MERGED, x -> x.skip(0, 1));
    }

    @Says(promise = 18, words = "if well is not 0 to 4")
    private static void skipBoundsOfWell() {
        boundsAre(0, 4, HOUSE, (x, well) -> x.skip(well, 1000));
        outOfBounds(HOUSE, x -> x.skip(5, -1));
        outOfBounds(HOUSE, x -> x.skip(-1, 1000001));
    }

    @Says(promise = 18, words = "if bound is not 0 to 1000000")
    private static void skipBoundsOfBound() {
        legalAre(0, 1000000, HOUSE, (x, bound) -> x.skip(1, bound));
        legalAre(0, 1000000, HOUSE, (x, bound) -> x.skip(2, bound));
        legalAre(0, 1000000, HOUSE, (x, bound) -> x.skip(4, bound));
    }

    // ---- 19 copy

    @Says(promise = 19, words = "A WELL is what another one is (EMPTY, if that is)")
    private static void copyIsTheSame() {
        for (Run house : new Run[] {HOUSE, DRY_HOUSE}) {
            for (int i = 0; i < 25; i++) {
                int from = i / 5;
                int to = i % 5;
                Run copied = inTurn(house, x -> x.copy(from, to));
                sameWells(house, from, copied, to);
                sameWells(house, from, copied, from);
            }
        }
        for (Run dry : DRY) {
            sameWells(dry, 0, inTurn(dry, x -> x.copy(0, 3)), 3);
        }
        due("-1 0 0 -1 -1 -1 -1 0 0 0", inTurn(HOUSE, x -> x.copy(4, 0)), x -> ofWell(x, 0));
    }

    @Says(promise = 19, words = "both go their own ways then")
    private static void copyGoesItsOwnWay() {
        Run copied = inTurn(CLOSED, x -> x.copy(0, 1));
        Run[] ways = {x -> x.draws(0, 2), x -> x.anew(0), x -> x.close(0, 1), x -> x.drop(0), x -> x.powers(0, 63),
            x -> x.sums(0, 3, 3), x -> x.shake(0), x -> x.skip(0, 1000)};
        for (Run way : ways) {
            sameWells(CLOSED, 0, inTurn(copied, way), 1);
            sameWells(inTurn(CLOSED, way), 0, inTurn(copied, way), 0);
        }
        Run[] waysOfCopy = {x -> x.draws(1, 2), x -> x.anew(1), x -> x.close(1, 1), x -> x.drop(1), x -> x.primes(1)};
        for (Run way : waysOfCopy) {
            sameWells(CLOSED, 0, inTurn(copied, way), 0);
        }
    }

    @Says(promise = 19, words = "- `to`: the WELL that becomes like it (may be the same)")
    private static void copyToItself() {
        for (int w = 0; w < 5; w++) {
            int well = w;
            unchanged(HOUSE, x -> x.copy(well, well));
            unchanged(DRY_HOUSE, x -> x.copy(well, well));
        }
    }

    @Says(promise = 19, words = "Returns SIZE (0, if it is EMPTY).")
    private static void copyTellsSize() {
        due(0, NOTHING, x -> x.copy(0, 1));
        due(0, HOUSE, x -> x.copy(4, 0));
        due(0, HOUSE, x -> x.copy(4, 4));
        due(2, CLOSED, x -> x.copy(0, 4));
        due(3, MERGED, x -> x.copy(0, 0));
        due(100, primes(100), x -> x.copy(0, 2));
        due(0, ALL_TOLD, x -> x.copy(0, 2));
        due(0, primes(0), x -> x.copy(0, 2));
    }

    @Says(promise = 19, words = "if well or to is not 0 to 4")
    private static void copyBounds() {
        boundsAre(0, 4, HOUSE, (x, well) -> x.copy(well, 0));
        boundsAre(0, 4, HOUSE, (x, to) -> x.copy(0, to));
        boundsAre(0, 4, HOUSE, (x, to) -> x.copy(4, to));
        outOfBounds(HOUSE, x -> x.copy(5, 5));
    }

    // ---- 20 shake

    @Says(promise = 20, words = "(Nothing that is told or asked becomes otherwise by it.)")
    private static void shakeChangesNothing() {
        for (int w = 0; w < 5; w++) {
            int well = w;
            unchanged(HOUSE, x -> x.shake(well));
            unchanged(DRY_HOUSE, x -> x.shake(well));
        }
        for (Run begun : oneOfEachKind()) {
            unchanged(begun, x -> x.shake(0));
            Run shakenOften = inTurn(begun, x -> {
                for (int i = 0; i < 5; i++) {
                    x.shake(0);
                    x.draw(0);
                }
            });
            sameWells(inTurn(begun, x -> x.draws(0, 5)), 0, shakenOften, 0);
        }
        for (Run dry : DRY) {
            unchanged(dry, x -> x.shake(0));
        }
    }

    @Says(promise = 20, words = "Returns SIZE; REFUSED, if the WELL is EMPTY.")
    private static void shakeOfEmptyWellIsRefused() {
        refused(NOTHING, x -> x.shake(0));
        refused(HOUSE, x -> x.shake(4));
        due(3, MERGED, x -> x.shake(0));
        due(2, CLOSED, x -> x.shake(0));
        due(0, ALL_TOLD, x -> x.shake(0));
        due(0, primes(0), x -> x.shake(0));
        due(100, primes(100), x -> x.shake(0));
        due(1, powers(63, 0), x -> x.shake(0));
        due(6, powers(63, 1), x -> x.shake(0));
    }

    @Says(promise = 20, words = "if well is not 0 to 4")
    private static void shakeBoundsOfWell() {
        boundsAre(0, 4, HOUSE, (x, well) -> x.shake(well));
    }

    // ---- 21 anew

    @Says(promise = 21, words = "A WELL is as it was when it began: nothing was told, no row is CLOSED.")
    private static void anewIsAsBegun() {
        sameWells(MERGED, 0, inTurn(CLOSED, x -> x.anew(0)), 0);
        Run[][] begunAndTold = {{powers(5, 0), powers(5, 30)}, {primes(0), primes(100)}, {primes(0), primes(1)},
            {inTurn(ROWS, x -> x.triples(0, 3, 3, 3)), HUNDRED_TOLD}, {inTurn(ROWS, x -> x.merge(0, 3, true)), ALL_CLOSED},
            {inTurn(ROWS, x -> x.merge(0, 3, false)), ALL_TOLD}, {NOTHING_TO_TELL, NOTHING_TO_TELL}};
        for (Run[] pair : begunAndTold) {
            sameWells(pair[0], 0, inTurn(pair[1], x -> x.anew(0)), 0);
            unchanged(pair[0], x -> x.anew(0));
        }
        // A closed row can be closed again.
        due(8, inTurn(CLOSED, x -> x.anew(0)), x -> x.close(0, 3));
    }

    @Says(promise = 21, words = "Returns SIZE; REFUSED, if the WELL is EMPTY.")
    private static void anewOfEmptyWellIsRefused() {
        refused(NOTHING, x -> x.anew(0));
        refused(HOUSE, x -> x.anew(4));
        refused(inTurn(CLOSED, x -> x.drop(0)), x -> x.anew(0));
        due(3, CLOSED, x -> x.anew(0));
        due(1, HUNDRED_TOLD, x -> x.anew(0));
        due(0, NOTHING_TO_TELL, x -> x.anew(0));
        due(0, primes(9), x -> x.anew(0));
        due(1, powers(63, 9), x -> x.anew(0));
    }

    @Says(promise = 21, words = "if well is not 0 to 4")
    private static void anewBoundsOfWell() {
        boundsAre(0, 4, HOUSE, (x, well) -> x.anew(well));
    }

    // ---- 22 again

    @Says(promise = 22, words = "(Nothing that is told or asked becomes otherwise by it.)")
    private static void againChangesNothing() {
        for (int w = 0; w < 5; w++) {
            int well = w;
            unchanged(HOUSE, x -> x.again(well));
            unchanged(DRY_HOUSE, x -> x.again(well));
        }
        for (Run begun : oneOfEachKind()) {
            unchanged(begun, x -> x.again(0));
            unchanged(inTurn(begun, x -> x.shake(0)), x -> x.again(0));
        }
        // What became of the rows later does not matter.
        unchanged(inTurn(MERGED, x -> x.draws(0, 3), x -> x.clear(0)), x -> x.again(0));
    }

    @Says(promise = 22, words = "Returns REFUSED, if the WELL is EMPTY, or a row of it is CLOSED (also where DRAWN is 0)")
    private static void againOfEmptyOrClosedWellIsRefused() {
        refused(NOTHING, x -> x.again(0));
        refused(HOUSE, x -> x.again(4));
        refused(CLOSED, x -> x.again(0));
        refused(ALL_CLOSED, x -> x.again(0));
        Run closedAtOnce = inTurn(MERGED, x -> x.close(0, 0));
        due("0 1", closedAtOnce, x -> x.ofWell(0, 1) + " " + x.ofWell(0, 9));
        refused(closedAtOnce, x -> x.again(0));
        due(NONE, inTurn(closedAtOnce, x -> x.anew(0)), x -> x.again(0));
        // What was refused has closed nothing.
        due(1, inTurn(MERGED, x -> x.close(0, 2), x -> x.draws(0, 2)), x -> x.again(0));
    }

    @Says(promise = 22, words = "otherwise the number of LAST, or NONE, if DRAWN is 0.")
    private static void againTellsTheLast() {
        due(NONE, MERGED, x -> x.again(0));
        due(0, inTurn(MERGED, x -> x.draw(0)), x -> x.again(0));
        due(1, inTurn(MERGED, x -> x.draws(0, 2)), x -> x.again(0));
        due(9, ALL_TOLD, x -> x.again(0));
        due(NONE, NOTHING_TO_TELL, x -> x.again(0));
        due(NONE, primes(0), x -> x.again(0));
        due(2, primes(1), x -> x.again(0));
        due(523, primes(99), x -> x.again(0));
        due(541, primes(100), x -> x.again(0));
        due(1, powers(63, 1), x -> x.again(0));
    }

    @Says(promise = 22, words = "if well is not 0 to 4")
    private static void againBoundsOfWell() {
        boundsAre(0, 4, HOUSE, (x, well) -> x.again(well));
    }

    // ---- 23 close

    @Says(promise = 23, words = "what is WAITING of it goes, and no ENTRY of it comes any more.")
    private static void closeLeavesTheOtherRows() {
        due("0 1 1 2 2 3 4 4 4 5 6 7 9", MERGED, x -> told(x, 0, 13).replaceAll("@[0-9],[0-9]", ""));
        due("1@0,0 2@1,0 4@0,1 4@1,1 9@0,2 -9@0,2", inTurn(MERGED, x -> x.close(0, 3)), x -> told(x, 0, 6));
        due("0@3,0 1@0,0 1@3,1 2@3,2", inTurn(MERGED, x -> x.close(0, 1)), x -> told(x, 0, 4));
        due("2 2 0", inTurn(MERGED, x -> x.close(0, 3)),
            x -> x.ofWell(0, 2) + " " + x.waits(0, 9) + " " + x.isWaiting(0, 3, 0, 0));
        due("4 9 -1 3 13", inTurn(MERGED, x -> x.close(0, 3)),
            x -> x.nth(0, 6) + " " + x.nth(0, 12) + " " + x.nth(0, 13) + " " + x.ways(0, 4) + " " + x.upTo(0, 9));
        for (int w = 1; w < 5; w++) {
            int well = w;
            sameWells(HOUSE, well, inTurn(HOUSE, x -> x.close(0, 3)), well);
        }
    }

    @Says(promise = 23, words = "Returns how many ENTRIES of it had not been told")
    private static void closeTellsHowManyWereLeft() {
        Run full = x -> {
            x.fill(5, 1, 1, 8);
            put(x, 4, 20);
            x.merge(0, 48, true);
        };
        for (int many = 0; many < 8; many++) {
            int told = many;
            due(8 - told, inTurn(full, x -> drawTimes(x, 0, told)), x -> x.close(0, 5));
        }
        refused(inTurn(full, x -> drawTimes(x, 0, 8)), x -> x.close(0, 5));
        due(1, inTurn(full, x -> drawTimes(x, 0, 8)), x -> x.close(0, 4));
        refused(inTurn(full, x -> drawTimes(x, 0, 9)), x -> x.close(0, 4));
    }

    @Says(promise = 23, words = "REFUSED, if the WELL is EMPTY or not MERGED")
    private static void closeOfOtherWellsIsRefused() {
        refused(NOTHING, x -> x.close(0, 0));
        refused(HOUSE, x -> x.close(4, 0));
        Run[] begun = oneOfEachKind();
        for (int i = 0; i < begun.length; i++) {
            if (i != 3) {
                refused(begun[i], x -> x.close(0, 0));
                refused(begun[i], x -> x.close(0, 1));
                refused(begun[i], x -> x.close(0, 5));
            }
        }
        refused(inTurn(ROWS, x -> x.sums(0, 0, 1)), x -> x.close(0, 0));
        refused(powers(63, 0), x -> x.close(0, 0));
    }

    @Says(promise = 23, words = "or if nothing of that row is WAITING (so also if it is not in the SET).")
    private static void closeOfNothingWaitingIsRefused() {
        refused(CLOSED, x -> x.close(0, 3));
        for (int r : new int[] {2, 4, 5}) {
            int row = r;
            refused(MERGED, x -> x.close(0, row));
            refused(inTurn(ROWS, x -> x.merge(0, 63, false)), x -> x.close(0, row));
        }
        refused(inTurn(ROWS, x -> x.merge(0, 2, false)), x -> x.close(0, 0));
        refused(inTurn(ROWS, x -> x.merge(0, 2, true)), x -> x.close(0, 3));
        refused(ALL_TOLD, x -> x.close(0, 0));
        refused(ALL_CLOSED, x -> x.close(0, 1));
        // The row 1 has told its last; one earlier it had not.
        Run upToFour = inTurn(MERGED, x -> x.skip(0, 4));
        due("4@0,1 1", upToFour, x -> told(x, 0, 1) + " " + x.close(0, 1));
        due("4@0,1 4@1,1 -9 1", upToFour, x -> told(x, 0, 2) + " " + x.close(0, 1) + " " + x.close(0, 0));
        // What became of the row later does not matter.
        due(3, inTurn(MERGED, x -> x.clear(0)), x -> x.close(0, 0));
        refused(inTurn(MERGED, x -> x.fill(5, 0, 1, 8)), x -> x.close(0, 5));
    }

    @Says(promise = 23, words = "if well is not 0 to 4, or row not 0 to 5")
    private static void closeBounds() {
        boundsAre(0, 4, HOUSE, (x, well) -> x.close(well, 0));
        boundsAre(0, 5, HOUSE, (x, row) -> x.close(0, row));
        boundsAre(0, 5, HOUSE, (x, row) -> x.close(1, row));
        boundsAre(0, 5, HOUSE, (x, row) -> x.close(4, row));
        outOfBounds(HOUSE, x -> x.close(5, 6));
    }

    // ---- 24 drop, 25 knock

    @Says(promise = 24, words = "A WELL is EMPTY then.")
    private static void dropEmpties() {
        for (int w = 0; w < 5; w++) {
            int well = w;
            sameWells(NOTHING, well, inTurn(HOUSE, x -> x.drop(well)), well);
            sameWells(NOTHING, well, inTurn(DRY_HOUSE, x -> x.drop(well)), well);
            sameWells(HOUSE, (well + 1) % 5, inTurn(HOUSE, x -> x.drop(well)), (well + 1) % 5);
            refused(inTurn(HOUSE, x -> x.drop(well)), x -> x.draw(well));
        }
    }

    @Says(promise = 24, words = "Returns DRAWN (0, if it was EMPTY).")
    private static void dropTellsDrawn() {
        due(0, NOTHING, x -> x.drop(0));
        due(0, MERGED, x -> x.drop(0));
        due(3, CLOSED, x -> x.drop(0));
        due(100, HUNDRED_TOLD, x -> x.drop(0));
        due(5, ALL_TOLD, x -> x.drop(0));
        due(0, inTurn(HUNDRED_TOLD, x -> x.drop(0)), x -> x.drop(0));
        unchanged(HOUSE, x -> x.drop(4));
    }

    @Says(promise = 24, words = "if well is not 0 to 4")
    private static void dropBoundsOfWell() {
        boundsAre(0, 4, HOUSE, (x, well) -> x.drop(well));
    }

    @Says(promise = 25, words = "Returns how often one knocked ever, with this.")
    private static void knockCounts() {
        due(1, NOTHING, x -> x.knock());
        due(2, HOUSE, x -> x.knock());
        due(512, x -> {
            for (int i = 0; i < 511; i++) {
                x.knock();
            }
        }, x -> x.knock());
        due(2, HOUSE, x -> x.knock() == 2 ? x.house(5) : NONE);
        for (int w = 0; w < 5; w++) {
            sameWells(HOUSE, w, inTurn(HOUSE, x -> x.knock()), w);
        }
    }

    public static void main(String[] args) {
        runAll(EdgesOfWellsTest.class, 10, 25);
    }
}
