/** The edges of promises 1 to 9: a new object, and rows. */
public final class EdgesOfRowsTest extends Edges {
    private static final Run SEVEN = x -> x.fill(2, 6, 0, 7);
    private static final Run FULL = x -> x.fill(2, 6, 0, 8);

    // ---- 1 a new object

    @Says(promise = 1, words = "Creates empty ROWS")
    private static void newRowsAreEmpty() {
        for (int r = 0; r < 6; r++) {
            int row = r;
            due(0, NOTHING, x -> x.rowSize(row));
            due("", NOTHING, x -> x.rowText(row));
            due(NONE, NOTHING, x -> x.rowAt(row, 0));
            due(REFUSED, NOTHING, x -> x.cut(row));
        }
        due(NONE, NOTHING, x -> x.least(63, 0));
    }

    @Says(promise = 1, words = "and EMPTY WELLS")
    private static void newWellsAreEmpty() {
        for (int w = 0; w < 5; w++) {
            int well = w;
            due("-1 0 0 -1 -1 -1 -1 0 0 0", NOTHING, x -> ofWell(x, well));
            due(REFUSED, NOTHING, x -> x.draw(well));
        }
        due(0, NOTHING, x -> x.house(0));
        due(0, NOTHING, x -> x.house(5));
    }

    @Says(promise = 1, words = "Creates")
    private static void objectsShareNothing() {
        due("", NOTHING, x -> {
            Endlessrows other = new Endlessrows();
            HOUSE.on(other);
            return x.rowText(0) + x.rowText(1) + x.text(0) + x.text(3);
        });
    }

    // ---- 2 add

    @Says(promise = 2, words = "A number comes to the end of a ROW.")
    private static void addComesToTheEnd() {
        due("4 6 6", x -> put(x, 3, 4, 6), x -> x.add(3, 6) == 3 ? x.rowText(3) : "");
        due("6", NOTHING, x -> x.add(5, 6) == 1 ? x.rowText(5) : "");
    }

    @Says(promise = 2, words = "Returns how many it has then")
    private static void addTellsHowMany() {
        for (int many = 1; many <= 7; many++) {
            int had = many;
            due(had + 1, x -> x.fill(4, 2, 3, had), x -> x.add(4, 999));
        }
        due(1, NOTHING, x -> x.add(4, 0));
    }

    @Says(promise = 2, words = "REFUSED, if it has 8")
    private static void addToFullRowIsRefused() {
        due(8, SEVEN, x -> x.add(2, 6));
        refused(FULL, x -> x.add(2, 6));
        refused(FULL, x -> x.add(2, 999));
        refused(FULL, x -> x.add(2, 0));
        due(8, inTurn(FULL, x -> x.cut(2)), x -> x.add(2, 6));
    }

    @Says(promise = 2, words = "or its last number is greater")
    private static void addBehindGreaterOneIsRefused() {
        Run six = x -> put(x, 2, 0, 6);
        refused(six, x -> x.add(2, 5));
        refused(six, x -> x.add(2, 0));
        due(3, six, x -> x.add(2, 6));
        due(3, six, x -> x.add(2, 7));
        Run greatest = x -> x.add(2, 999);
        refused(greatest, x -> x.add(2, 998));
        due(2, greatest, x -> x.add(2, 999));
        due(2, x -> x.add(2, 0), x -> x.add(2, 0));
        // Behind a cut the last number is another one.
        due(2, inTurn(six, x -> x.cut(2)), x -> x.add(2, 5));
    }

    @Says(promise = 2, words = "if row is not 0 to 5")
    private static void addBoundsOfRow() {
        boundsAre(0, 5, HOUSE, (x, row) -> x.add(row, 999));
    }

    @Says(promise = 2, words = "if number is not 0 to 999")
    private static void addBoundsOfNumber() {
        legalAre(0, 999, HOUSE, (x, number) -> x.add(2, number));
        due("0 999", x -> x.add(2, 0), x -> x.add(2, 999) == 2 ? x.rowText(2) : "");
    }

    @Says(promise = 2, words = "Throws `IndexOutOfBoundsException` if row")
    private static void addNamesTheRowFirst() {
        outOfBounds(HOUSE, x -> x.add(-1, 1000));
        outOfBounds(HOUSE, x -> x.add(6, -1));
    }

    @Says(promise = 2, words = "Throws `IllegalArgumentException` if number")
    private static void addThrowsAheadOfRefused() {
        illegal(FULL, x -> x.add(2, 1000));
        illegal(FULL, x -> x.add(2, -1));
        illegal(x -> x.add(2, 999), x -> x.add(2, -1));
    }

    // ---- 3 cut

    @Says(promise = 3, words = "The last number of a ROW goes.")
    private static void cutTakesTheLastAlone() {
        due("1 7", x -> put(x, 0, 1, 7, 7), x -> x.cut(0) == 7 ? x.rowText(0) : "");
        due("", x -> x.add(0, 0), x -> x.cut(0) == 0 ? x.rowText(0) : "left");
        due(7, FULL, x -> x.cut(2) == 6 ? x.rowSize(2) : NONE);
    }

    @Says(promise = 3, words = "Returns that number; REFUSED, if the ROW is empty.")
    private static void cutOfEmptyRowIsRefused() {
        due(9, x -> put(x, 5, 3, 9), x -> x.cut(5));
        due(3, x -> put(x, 5, 3), x -> x.cut(5));
        refused(NOTHING, x -> x.cut(5));
        refused(HOUSE, x -> x.cut(2));
        refused(inTurn(FULL, x -> x.clear(2)), x -> x.cut(2));
        refused(inTurn(x -> x.add(1, 4), x -> x.cut(1)), x -> x.cut(1));
        due(1, x -> x.cut(1), x -> x.add(1, 0));
    }

    @Says(promise = 3, words = "if row is not 0 to 5")
    private static void cutBoundsOfRow() {
        boundsAre(0, 5, HOUSE, (x, row) -> x.cut(row));
    }

    // ---- 4 clear

    @Says(promise = 4, words = "A ROW is empty then.")
    private static void clearEmpties() {
        due("", FULL, x -> x.clear(2) == 8 ? x.rowText(2) : "left");
        due(1, FULL, x -> x.clear(2) == 8 ? x.add(2, 0) : NONE);
        sameObjects(NOTHING, inTurn(FULL, x -> x.clear(2)));
    }

    @Says(promise = 4, words = "Returns how many numbers it had.")
    private static void clearTellsHowMany() {
        due(0, NOTHING, x -> x.clear(2));
        due(1, x -> x.add(2, 500), x -> x.clear(2));
        due(8, FULL, x -> x.clear(2));
        due(0, FULL, x -> x.clear(3));
        unchanged(HOUSE, x -> x.clear(2));
    }

    @Says(promise = 4, words = "if row is not 0 to 5")
    private static void clearBoundsOfRow() {
        boundsAre(0, 5, HOUSE, (x, row) -> x.clear(row));
    }

    // ---- 5 fill

    @Says(promise = 5, words = "in place of what it had")
    private static void fillReplacesAll() {
        due("1", FULL, x -> x.fill(2, 1, 9, 1) == 1 ? x.rowText(2) : "");
        due("0 0 0 0 0 0 0 0", x -> x.add(2, 999), x -> x.fill(2, 0, 0, 8) == 0 ? x.rowText(2) : "");
        due("6 6 6 6 6 6 6", SEVEN, x -> x.fill(3, 1, 1, 8) == 8 ? x.rowText(2) : "");
    }

    @Says(promise = 5, words = "first, first + step, first + 2 * step and so on, as many as told")
    private static void fillEdges() {
        due("99 198 297 396 495 594 693 792", x -> x.fill(0, 99, 99, 8), x -> x.rowText(0));
        due("0 99", x -> x.fill(0, 0, 99, 2), x -> x.rowText(0));
        due("99 99 99", x -> x.fill(0, 99, 0, 3), x -> x.rowText(0));
        due("0", x -> x.fill(0, 0, 0, 1), x -> x.rowText(0));
    }

    @Says(promise = 5, words = "Returns the last one of these numbers.")
    private static void fillTellsTheLast() {
        due(792, NOTHING, x -> x.fill(0, 99, 99, 8));
        due(0, NOTHING, x -> x.fill(0, 0, 99, 1));
        due(99, NOTHING, x -> x.fill(5, 99, 0, 8));
        due(12, FULL, x -> x.fill(2, 2, 5, 3));
    }

    @Says(promise = 5, words = "if row is not 0 to 5")
    private static void fillBoundsOfRow() {
        boundsAre(0, 5, HOUSE, (x, row) -> x.fill(row, 1, 1, 1));
    }

    @Says(promise = 5, words = "if first is not 0 to 99")
    private static void fillBoundsOfFirst() {
        legalAre(0, 99, HOUSE, (x, first) -> x.fill(1, first, 1, 1));
    }

    @Says(promise = 5, words = "step not 0 to 99")
    private static void fillBoundsOfStep() {
        legalAre(0, 99, HOUSE, (x, step) -> x.fill(1, 1, step, 1));
    }

    @Says(promise = 5, words = "or many not 1 to 8")
    private static void fillBoundsOfMany() {
        legalAre(1, 8, HOUSE, (x, many) -> x.fill(1, 1, 1, many));
    }

    @Says(promise = 5, words = "Throws `IndexOutOfBoundsException` if row")
    private static void fillNamesTheRowFirst() {
        outOfBounds(HOUSE, x -> x.fill(6, 100, 1, 1));
        outOfBounds(HOUSE, x -> x.fill(-1, 1, -1, 1));
        outOfBounds(HOUSE, x -> x.fill(6, 1, 1, 0));
        outOfBounds(HOUSE, x -> x.fill(-1, -1, 100, 9));
    }

    // ---- 6 rowAt

    @Says(promise = 6, words = "Returns the number there; NONE, if there is none.")
    private static void rowAtEdges() {
        Run two = x -> put(x, 2, 0, 8);
        due(0, two, x -> x.rowAt(2, 0));
        due(8, two, x -> x.rowAt(2, 1));
        due(NONE, two, x -> x.rowAt(2, 2));
        due(NONE, two, x -> x.rowAt(2, 7));
        due(NONE, two, x -> x.rowAt(1, 0));
        due(792, x -> x.fill(2, 99, 99, 8), x -> x.rowAt(2, 7));
        due(NONE, SEVEN, x -> x.rowAt(2, 7));
        // What went is not there any more.
        due(NONE, inTurn(FULL, x -> x.cut(2)), x -> x.rowAt(2, 7));
        due(NONE, inTurn(FULL, x -> x.clear(2)), x -> x.rowAt(2, 0));
        due(NONE, inTurn(FULL, x -> x.fill(2, 1, 1, 1)), x -> x.rowAt(2, 1));
        unchanged(HOUSE, x -> x.rowAt(1, 7));
    }

    @Says(promise = 6, words = "if row is not 0 to 5")
    private static void rowAtBoundsOfRow() {
        boundsAre(0, 5, HOUSE, (x, row) -> x.rowAt(row, 0));
    }

    @Says(promise = 6, words = "or place not 0 to 7")
    private static void rowAtBoundsOfPlace() {
        boundsAre(0, 7, HOUSE, (x, place) -> x.rowAt(1, place));
        boundsAre(0, 7, HOUSE, (x, place) -> x.rowAt(2, place));
        outOfBounds(HOUSE, x -> x.rowAt(6, 8));
    }

    // ---- 7 rowSize, 8 rowText

    @Says(promise = 7, words = "Returns how many numbers it has.")
    private static void rowSizeEdges() {
        due(0, NOTHING, x -> x.rowSize(2));
        due(1, x -> x.add(2, 0), x -> x.rowSize(2));
        due(7, SEVEN, x -> x.rowSize(2));
        due(8, FULL, x -> x.rowSize(2));
        due(8, inTurn(FULL, x -> x.add(2, 6)), x -> x.rowSize(2));
        due(7, inTurn(FULL, x -> x.cut(2)), x -> x.rowSize(2));
        due(0, inTurn(FULL, x -> x.clear(2)), x -> x.rowSize(2));
        due(0, x -> x.cut(2), x -> x.rowSize(2));
        unchanged(HOUSE, x -> x.rowSize(1));
    }

    @Says(promise = 7, words = "if row is not 0 to 5")
    private static void rowSizeBoundsOfRow() {
        boundsAre(0, 5, HOUSE, (x, row) -> x.rowSize(row));
    }

    @Says(promise = 8, words = "Returns its numbers with a blank between two; \"\" if it is empty.")
    private static void rowTextEdges() {
        due("", NOTHING, x -> x.rowText(2));
        due("0", x -> x.add(2, 0), x -> x.rowText(2));
        due("0 999", x -> put(x, 2, 0, 999), x -> x.rowText(2));
        due("6 6 6 6 6 6 6 6", FULL, x -> x.rowText(2));
        due("", inTurn(FULL, x -> x.clear(2)), x -> x.rowText(2));
        unchanged(HOUSE, x -> x.rowText(1));
    }

    @Says(promise = 8, words = "if row is not 0 to 5")
    private static void rowTextBoundsOfRow() {
        boundsAre(0, 5, HOUSE, (x, row) -> x.rowText(row));
    }

    // ---- 9 least

    @Says(promise = 9, words = "Returns of all numbers of these ROWS together (likes as often as they stand there)")
    private static void leastCountsLikes() {
        Run likes = x -> {
            put(x, 0, 4, 4, 9);
            put(x, 3, 4, 9);
            put(x, 5, 0);
        };
        int[] due = {4, 4, 4, 9, 9};
        for (int i = 0; i < due.length; i++) {
            int k = i;
            due(due[k], likes, x -> x.least(9, k));
        }
        // The empty rows 1, 2 and 4 of the SET give nothing, the row 5 outside it neither.
        due(4, likes, x -> x.least(31, 0));
        due(0, likes, x -> x.least(63, 0));
        due(9, likes, x -> x.least(63, 5));
        due(0, likes, x -> x.least(32, 0));
    }

    @Says(promise = 9, words = "NONE, if they are k or fewer")
    private static void leastBeyondAllIsNone() {
        Run three = x -> put(x, 0, 4, 5, 9);
        due(9, three, x -> x.least(1, 2));
        due(NONE, three, x -> x.least(1, 3));
        due(NONE, three, x -> x.least(1, 4));
        due(NONE, three, x -> x.least(63, 47));
        due(NONE, three, x -> x.least(62, 0));
        due(NONE, NOTHING, x -> x.least(63, 0));
        Run all = x -> {
            for (int row = 0; row < 6; row++) {
                x.fill(row, row, 6, 8);
            }
        };
        due(46, all, x -> x.least(63, 46));
        due(47, all, x -> x.least(63, 47));
        due(NONE, inTurn(all, x -> x.cut(5)), x -> x.least(63, 47));
        due(NONE, all, x -> x.least(31, 40));
        unchanged(HOUSE, x -> x.least(63, 20));
    }

    @Says(promise = 9, words = "if set is not 1 to 63")
    private static void leastBoundsOfSet() {
        legalAre(1, 63, HOUSE, (x, set) -> x.least(set, 0));
    }

    @Says(promise = 9, words = "or k not 0 to 47")
    private static void leastBoundsOfK() {
        legalAre(0, 47, HOUSE, (x, k) -> x.least(63, k));
        illegal(HOUSE, x -> x.least(0, 48));
    }

    public static void main(String[] args) {
        runAll(EdgesOfRowsTest.class, 1, 9);
    }
}
