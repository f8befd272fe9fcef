import java.util.function.Supplier;

/** Each promise by hand: ordinary inputs, the edges that the document names, and wrong inputs. */
public final class PromisesTest {
    private static final int NONE = -1;
    private static final int REFUSED = -9;
    private static final String OUT_OF_BOUNDS = "throws.IndexOutOfBoundsException";
    private static final String ILLEGAL = "throws.IllegalArgumentException";

    private static int wrong = 0;
    private static int asked = 0;
    private static int promise = 0;

    private static void due(Object want, Supplier<Object> call) {
        Object got;
        try {
            got = call.get();
        } catch (RuntimeException e) {
            // The very class: what the machine throws is of a class below the document's.
            String name = e.getClass().getName();
            got = "throws." + (name.startsWith("java.lang.") ? name.substring("java.lang.".length()) : name);
        }
        asked++;
        if (!want.equals(got)) {
            wrong++;
            StackTraceElement[] stack = new Throwable().getStackTrace();
            int line = 0;
            for (int i = stack.length - 1; i >= 0; i--) {
                if (!stack[i].getMethodName().matches("main|due")) {
                    line = stack[i].getLineNumber();
                    break;
                }
            }
            System.out.println("promise " + promise + ", line " + line + ": answered " + got + ", due is " + want);
        }
    }

    private static Endlessrows withRow(int row, int... numbers) {
        Endlessrows x = new Endlessrows();
        put(x, row, numbers);
        return x;
    }

    private static void put(Endlessrows x, int row, int... numbers) {
        x.clear(row);
        for (int number : numbers) {
            x.add(row, number);
        }
    }

    private static String drawn(Endlessrows x, int well, int times) {
        StringBuilder line = new StringBuilder();
        for (int i = 0; i < times; i++) {
            line.append(i == 0 ? "" : " ").append(x.draw(well));
        }
        return line.toString();
    }

    /** Number and places of each of the next ones, as told. */
    private static String drawnWithPlaces(Endlessrows x, int well, int times) {
        StringBuilder line = new StringBuilder();
        for (int i = 0; i < times; i++) {
            line.append(i == 0 ? "" : " ").append(x.draw(well)).append('@').append(x.ofWell(well, 4))
                .append(',').append(x.ofWell(well, 5)).append(',').append(x.ofWell(well, 6));
        }
        return line.toString();
    }

    private static String answers(Endlessrows x, int well) {
        StringBuilder line = new StringBuilder();
        for (int what = 0; what <= 9; what++) {
            line.append(what == 0 ? "" : " ").append(x.ofWell(well, what));
        }
        return line.toString();
    }

    private static void newObject() {
        promise = 1;
        Endlessrows x = new Endlessrows();
        for (int r = 0; r < 6; r++) {
            int row = r;
            due(0, () -> x.rowSize(row));
            due("", () -> x.rowText(row));
        }
        for (int w = 0; w < 5; w++) {
            int well = w;
            due("-1 0 0 -1 -1 -1 -1 0 0 0", () -> answers(x, well));
            due(REFUSED, () -> x.peek(well));
            due("", () -> x.text(well));
        }
        due(0, () -> x.house(5));
        // Two objects share nothing.
        Endlessrows y = new Endlessrows();
        x.fill(0, 1, 1, 3);
        x.primes(0);
        x.knock();
        due(0, () -> y.rowSize(0));
        due(0, () -> y.house(0));
        due(1, () -> y.knock());
    }

    private static void add() {
        promise = 2;
        Endlessrows x = new Endlessrows();
        due(1, () -> x.add(0, 0));
        due(2, () -> x.add(0, 0));
        due(3, () -> x.add(0, 7));
        due(REFUSED, () -> x.add(0, 6));
        due("0 0 7", () -> x.rowText(0));
        due(4, () -> x.add(0, 999));
        due(REFUSED, () -> x.add(0, 998));
        for (int i = 5; i <= 8; i++) {
            int size = i;
            due(size, () -> x.add(0, 999));
        }
        due(REFUSED, () -> x.add(0, 999));
        due(8, () -> x.rowSize(0));
        due(1, () -> x.add(5, 999));
        due(OUT_OF_BOUNDS, () -> x.add(-1, 5));
        due(OUT_OF_BOUNDS, () -> x.add(6, 5));
        due(OUT_OF_BOUNDS, () -> x.add(6, 1000));
        due(ILLEGAL, () -> x.add(1, 1000));
        due(ILLEGAL, () -> x.add(1, -1));
        due(ILLEGAL, () -> x.add(0, 1000));
        due(0, () -> x.rowSize(1));
    }

    private static void cut() {
        promise = 3;
        Endlessrows x = withRow(2, 3, 5, 5);
        due(5, () -> x.cut(2));
        due("3 5", () -> x.rowText(2));
        due(5, () -> x.cut(2));
        due(3, () -> x.cut(2));
        due(REFUSED, () -> x.cut(2));
        due(0, () -> x.rowSize(2));
        due(1, () -> x.add(2, 0));
        due(0, () -> x.cut(2));
        due(OUT_OF_BOUNDS, () -> x.cut(-1));
        due(OUT_OF_BOUNDS, () -> x.cut(6));
    }

    private static void clear() {
        promise = 4;
        Endlessrows x = withRow(5, 1, 2, 3, 4, 5, 6, 7, 8);
        due(8, () -> x.clear(5));
        due("", () -> x.rowText(5));
        due(0, () -> x.clear(5));
        due(1, () -> x.add(5, 0));
        due(OUT_OF_BOUNDS, () -> x.clear(-1));
        due(OUT_OF_BOUNDS, () -> x.clear(6));
        due(1, () -> x.rowSize(5));
    }

    private static void fill() {
        promise = 5;
        Endlessrows x = withRow(1, 500, 600);
        due(14, () -> x.fill(1, 2, 3, 5));
        due("2 5 8 11 14", () -> x.rowText(1));
        due(792, () -> x.fill(1, 99, 99, 8));
        due("99 198 297 396 495 594 693 792", () -> x.rowText(1));
        due(0, () -> x.fill(1, 0, 0, 1));
        due("0", () -> x.rowText(1));
        due(4, () -> x.fill(1, 4, 0, 3));
        due("4 4 4", () -> x.rowText(1));
        due(OUT_OF_BOUNDS, () -> x.fill(-1, 1, 1, 1));
        due(OUT_OF_BOUNDS, () -> x.fill(6, 100, 1, 1));
        due(ILLEGAL, () -> x.fill(1, 100, 1, 1));
        due(ILLEGAL, () -> x.fill(1, -1, 1, 1));
        due(ILLEGAL, () -> x.fill(1, 1, 100, 1));
        due(ILLEGAL, () -> x.fill(1, 1, -1, 1));
        due(ILLEGAL, () -> x.fill(1, 1, 1, 9));
        due(ILLEGAL, () -> x.fill(1, 1, 1, 0));
        due("4 4 4", () -> x.rowText(1));
    }

    private static void rowAt() {
        promise = 6;
        Endlessrows x = withRow(3, 4, 9);
        due(4, () -> x.rowAt(3, 0));
        due(9, () -> x.rowAt(3, 1));
        due(NONE, () -> x.rowAt(3, 2));
        due(NONE, () -> x.rowAt(3, 7));
        due(NONE, () -> x.rowAt(0, 0));
        x.cut(3);
        due(NONE, () -> x.rowAt(3, 1));
        due(OUT_OF_BOUNDS, () -> x.rowAt(3, -1));
        due(OUT_OF_BOUNDS, () -> x.rowAt(3, 8));
        due(OUT_OF_BOUNDS, () -> x.rowAt(-1, 0));
        due(OUT_OF_BOUNDS, () -> x.rowAt(6, 0));
    }

    private static void rowSizeAndText() {
        promise = 7;
        Endlessrows x = withRow(4, 0, 10, 10);
        due(3, () -> x.rowSize(4));
        due(0, () -> x.rowSize(3));
        due(OUT_OF_BOUNDS, () -> x.rowSize(-1));
        due(OUT_OF_BOUNDS, () -> x.rowSize(6));
        promise = 8;
        due("0 10 10", () -> x.rowText(4));
        due("", () -> x.rowText(3));
        x.fill(3, 7, 0, 1);
        due("7", () -> x.rowText(3));
        due(OUT_OF_BOUNDS, () -> x.rowText(-1));
        due(OUT_OF_BOUNDS, () -> x.rowText(6));
    }

    private static void least() {
        promise = 9;
        Endlessrows x = withRow(0, 5, 7, 7);
        put(x, 2, 1, 7, 900);
        put(x, 5, 0);
        int[] both = {1, 5, 7, 7, 7, 900, NONE};
        for (int i = 0; i < both.length; i++) {
            int k = i;
            due(both[k], () -> x.least(5, k));
        }
        due(0, () -> x.least(32, 0));
        due(5, () -> x.least(1, 0));
        due(NONE, () -> x.least(1, 3));
        due(0, () -> x.least(63, 0));
        due(NONE, () -> x.least(2, 0));
        due(NONE, () -> x.least(63, 47));
        for (int row = 0; row < 6; row++) {
            x.fill(row, row, 6, 8);
        }
        due(47, () -> x.least(63, 47));
        due(13, () -> x.least(63, 13));
        due(ILLEGAL, () -> x.least(0, 0));
        due(ILLEGAL, () -> x.least(64, 0));
        due(ILLEGAL, () -> x.least(63, -1));
        due(ILLEGAL, () -> x.least(63, 48));
    }

    private static void powers() {
        promise = 10;
        Endlessrows x = new Endlessrows();
        due(1, () -> x.powers(0, 1));
        due("1 2 4 8 16 32 64 128", () -> x.text(0));
        due("0 0 1 -1 -1 -1 -1 0 1 0", () -> answers(x, 0));
        due(17, () -> x.upTo(0, 1000000));
        due("1 2 4", () -> drawn(x, 0, 3));
        due("0 3 1 4 -1 -1 -1 0 1 0", () -> answers(x, 0));
        due(1, () -> x.powers(0, 3));
        due("1 2 3 4 6 8 9 12 16", () -> drawn(x, 0, 9));
        // 18 and 27 wait for 9, 24 for 12 (and 12's 36), 32 for 16; 18 and 48 for 6 and 16.
        due("0 9 6 16 -1 -1 -1 0 10 0", () -> answers(x, 0));
        due(1, () -> x.powers(4, 63));
        due("1 2 3 4 5 6 7 8", () -> x.text(4));
        due("1 2 3 4 5 6 7 8 9 10 11 12 13 14 15 16 18 20 21 22", () -> drawn(x, 4, 20));
        due(1, () -> x.powers(1, 32));
        due("1 13 169 2197 28561 -9", () -> drawn(x, 1, 6));
        due("0 5 0 28561 -1 -1 -1 1 1 0", () -> answers(x, 1));
        due(1, () -> x.powers(1, 4));
        due("1 5 25 125 625 3125 15625 78125", () -> x.text(1));
        // 100000 itself is in the course, told last here, and waits for 20000.
        due(1, () -> x.powers(2, 5));
        due(20, () -> x.draws(2, 20));
        due(20, () -> x.draws(2, 20));
        due(20, () -> x.draws(2, 20));
        due(100000, () -> x.nth(2, x.upTo(2, 1000000) - 1));
        for (int i = 0; i < 2; i++) {
            x.skip(2, 100000);
        }
        due(1, () -> x.ofWell(2, 2));
        due("100000", () -> x.text(2));
        due(100000, () -> x.draw(2));
        due(x.upTo(2, 100000), () -> x.ofWell(2, 1));
        due(1, () -> x.ofWell(2, 7));
        due(5, () -> x.powers(2, 5) + x.draws(2, 4));
        due("8 10 16 20 25 32 40 50", () -> x.text(2));
        due(OUT_OF_BOUNDS, () -> x.powers(-1, 1));
        due(OUT_OF_BOUNDS, () -> x.powers(5, 0));
        due(ILLEGAL, () -> x.powers(0, 0));
        due(ILLEGAL, () -> x.powers(0, 64));
        due(9, () -> x.ofWell(0, 1));
    }

    private static void sums() {
        promise = 11;
        Endlessrows x = withRow(0, 1, 2, 4);
        put(x, 1, 10, 11);
        due(1, () -> x.sums(0, 0, 1));
        due("1 0 1 -1 -1 -1 -1 0 1 0", () -> answers(x, 0));
        due("11@0,0,-1 12@0,1,-1 12@1,0,-1 13@1,1,-1 14@2,0,-1 15@2,1,-1", () -> drawnWithPlaces(x, 0, 6));
        due("1 6 0 15 2 1 -1 1 3 0", () -> answers(x, 0));
        due(1, () -> x.sums(1, 1, 1));
        due("20 21 21 22", () -> x.text(1));
        due(0, () -> x.sums(0, 2, 0));
        due("1 0 0 -1 -1 -1 -1 1 0 0", () -> answers(x, 0));
        due(0, () -> x.sums(0, 0, 2));
        due("1 0 0 -1 -1 -1 -1 1 1 0", () -> answers(x, 0));
        // What becomes of the rows later does not matter.
        due(1, () -> x.sums(0, 0, 1));
        x.clear(0);
        x.fill(1, 99, 1, 8);
        due("11 12 12 13 14 15", () -> x.text(0));
        due(OUT_OF_BOUNDS, () -> x.sums(-1, 0, 0));
        due(OUT_OF_BOUNDS, () -> x.sums(5, 0, 0));
        due(OUT_OF_BOUNDS, () -> x.sums(0, -1, 0));
        due(OUT_OF_BOUNDS, () -> x.sums(0, 6, 0));
        due(OUT_OF_BOUNDS, () -> x.sums(0, 0, -1));
        due(OUT_OF_BOUNDS, () -> x.sums(0, 0, 6));
        due("11 12 12 13 14 15", () -> x.text(0));
    }

    private static void triples() {
        promise = 12;
        Endlessrows x = withRow(0, 0, 1);
        put(x, 1, 0, 1);
        put(x, 2, 0, 1);
        due(1, () -> x.triples(3, 0, 1, 2));
        due("0@0,0,0 1@0,0,1 1@0,1,0 1@1,0,0", () -> drawnWithPlaces(x, 3, 4));
        // (0,1,1), (1,0,1) and (1,1,0) wait.
        due("2 4 3 1 1 0 0 0 4 0", () -> answers(x, 3));
        due("2@0,1,1 2@1,0,1 2@1,1,0 3@1,1,1 -9@1,1,1", () -> drawnWithPlaces(x, 3, 5));
        due("2 8 0 3 1 1 1 1 4 0", () -> answers(x, 3));
        x.fill(4, 5, 5, 8);
        due(1, () -> x.triples(0, 4, 4, 4));
        due("15 20 20 20 25 25 25 25", () -> x.text(0));
        due(512, () -> x.upTo(0, 1000000));
        due(1, () -> x.draws(0, 1));
        due("2 1 3 15 0 0 0 0 3 0", () -> answers(x, 0));
        x.fill(5, 1, 1, 2);
        due(1, () -> x.triples(0, 5, 4, 4));
        due(20, () -> x.draws(0, 20));
        due(16, () -> x.ofWell(0, 8));
        due(1, () -> x.triples(0, 4, 4, 5));
        due(20, () -> x.draws(0, 20));
        due(41, () -> x.ofWell(0, 8));
        due(0, () -> x.triples(0, 3, 4, 4));
        due(0, () -> x.triples(0, 4, 3, 4));
        due("2 0 0 -1 -1 -1 -1 1 0 0", () -> answers(x, 0));
        due(0, () -> x.triples(0, 4, 4, 3));
        due("2 0 0 -1 -1 -1 -1 1 1 0", () -> answers(x, 0));
        due(OUT_OF_BOUNDS, () -> x.triples(-1, 0, 0, 0));
        due(OUT_OF_BOUNDS, () -> x.triples(5, 0, 0, 0));
        due(OUT_OF_BOUNDS, () -> x.triples(0, 6, 0, 0));
        due(OUT_OF_BOUNDS, () -> x.triples(0, 0, -1, 0));
        due(OUT_OF_BOUNDS, () -> x.triples(0, 0, 6, 0));
        due(OUT_OF_BOUNDS, () -> x.triples(0, 0, 0, 6));
        due(OUT_OF_BOUNDS, () -> x.triples(0, 0, 0, -1));
        due(2, () -> x.ofWell(0, 0));
    }

    private static void merge() {
        promise = 13;
        Endlessrows x = withRow(0, 3, 3, 5);
        put(x, 2, 3, 4);
        put(x, 5, 3, 3);
        due(3, () -> x.merge(0, 37, false));
        due("3@0,0,-1 3@0,1,-1 3@2,0,-1 3@5,0,-1 3@5,1,-1 4@2,1,-1 5@0,2,-1", () -> drawnWithPlaces(x, 0, 7));
        due("3 7 0 5 0 2 -1 1 3 0", () -> answers(x, 0));
        due(3, () -> x.merge(0, 37, true));
        due("3@5,0,-1 3@5,1,-1 3@2,0,-1 3@0,0,-1 3@0,1,-1 4@2,1,-1 5@0,2,-1", () -> drawnWithPlaces(x, 0, 7));
        due(1, () -> x.merge(1, 3, false));
        due("3 0 1 -1 -1 -1 -1 0 2 0", () -> answers(x, 1));
        due(0, () -> x.merge(1, 2, true));
        due("3 0 0 -1 -1 -1 -1 1 1 0", () -> answers(x, 1));
        due(3, () -> x.merge(1, 63, false));
        x.clear(5);
        x.add(1, 0);
        due("3 3 3 3 3 4 5", () -> x.text(1));
        due(OUT_OF_BOUNDS, () -> x.merge(-1, 1, false));
        due(OUT_OF_BOUNDS, () -> x.merge(5, 0, false));
        due(ILLEGAL, () -> x.merge(0, 0, false));
        due(ILLEGAL, () -> x.merge(0, 64, true));
        due(7, () -> x.ofWell(0, 1));
    }

    private static void table() {
        promise = 14;
        Endlessrows x = withRow(0, 0, 2, 3);
        put(x, 1, 0, 4, 6);
        due(1, () -> x.table(0, 0, 1));
        due("0@0,0,-1 0@0,1,-1 0@0,2,-1 0@1,0,-1 0@2,0,-1 8@1,1,-1 12@1,2,-1 12@2,1,-1 18@2,2,-1",
            () -> drawnWithPlaces(x, 0, 9));
        due("4 9 0 18 2 2 -1 1 3 0", () -> answers(x, 0));
        put(x, 2, 999);
        due(1, () -> x.table(1, 2, 2));
        due(998001, () -> x.peek(1));
        due(0, () -> x.upTo(1, 998000));
        due(1, () -> x.ways(1, 998001));
        due(0, () -> x.table(1, 3, 2));
        due("4 0 0 -1 -1 -1 -1 1 0 0", () -> answers(x, 1));
        due(0, () -> x.table(1, 2, 3));
        due("4 0 0 -1 -1 -1 -1 1 1 0", () -> answers(x, 1));
        due(OUT_OF_BOUNDS, () -> x.table(-1, 0, 0));
        due(OUT_OF_BOUNDS, () -> x.table(5, 0, 0));
        due(OUT_OF_BOUNDS, () -> x.table(0, 6, 0));
        due(OUT_OF_BOUNDS, () -> x.table(0, -1, 0));
        due(OUT_OF_BOUNDS, () -> x.table(0, 0, 6));
        due(OUT_OF_BOUNDS, () -> x.table(0, 0, -1));
        due(9, () -> x.ofWell(0, 1));
    }

    private static void primes() {
        promise = 15;
        Endlessrows x = new Endlessrows();
        x.powers(2, 3);
        due(0, () -> x.primes(2));
        due("5 0 0 -1 -1 -1 -1 0 0 0", () -> answers(x, 2));
        due("2 3 5 7 11 13 17 19", () -> x.text(2));
        due("2 3 5 7", () -> drawn(x, 2, 4));
        due("5 4 4 7 -1 -1 -1 0 4 0", () -> answers(x, 2));
        // 8 for 2, 9 for 3, 25 for 5, 49 for 7.
        due(0, () -> x.waits(2, 7));
        due(1, () -> x.waits(2, 8));
        due(2, () -> x.waits(2, 9));
        due(2, () -> x.waits(2, 24));
        due(3, () -> x.waits(2, 25));
        due(4, () -> x.waits(2, 49));
        due("11 13", () -> drawn(x, 2, 2));
        // 14 for 2, 15 for 3, 25, 49, 121, 169.
        due(1, () -> x.waits(2, 14));
        due(2, () -> x.waits(2, 15));
        due(5, () -> x.waits(2, 168));
        due(6, () -> x.waits(2, 169));
        due("17 19 23 29", () -> drawn(x, 2, 4));
        // 30 for each of 2, 3 and 5: likes count each.
        due(0, () -> x.waits(2, 29));
        due(3, () -> x.waits(2, 30));
        due(OUT_OF_BOUNDS, () -> x.primes(-1));
        due(OUT_OF_BOUNDS, () -> x.primes(5));
    }

    private static void draw() {
        promise = 16;
        Endlessrows x = withRow(0, 8, 9);
        due(REFUSED, () -> x.draw(0));
        x.merge(0, 1, false);
        due(8, () -> x.draw(0));
        due(9, () -> x.draw(0));
        due(REFUSED, () -> x.draw(0));
        due(2, () -> x.ofWell(0, 1));
        x.primes(1);
        for (int i = 0; i < 99; i++) {
            x.draw(1);
        }
        due(541, () -> x.draw(1));
        due(REFUSED, () -> x.draw(1));
        due("5 100 100 541 -1 -1 -1 1 100 0", () -> answers(x, 1));
        due(OUT_OF_BOUNDS, () -> x.draw(-1));
        due(OUT_OF_BOUNDS, () -> x.draw(5));
    }

    private static void draws() {
        promise = 17;
        Endlessrows x = new Endlessrows();
        due(REFUSED, () -> x.draws(0, 1));
        x.fill(0, 1, 1, 8);
        x.sums(0, 0, 0);
        due(20, () -> x.draws(0, 20));
        due(20, () -> x.draws(0, 20));
        due(20, () -> x.draws(0, 20));
        due(4, () -> x.draws(0, 20));
        due(0, () -> x.draws(0, 20));
        x.triples(1, 0, 0, 0);
        for (int i = 0; i < 5; i++) {
            due(20, () -> x.draws(1, 20));
        }
        due(0, () -> x.draws(1, 1));
        due(1, () -> x.ofWell(1, 7));
        due(true, () -> x.ofWell(1, 2) > 0);
        due(REFUSED, () -> x.peek(1));
        due(OUT_OF_BOUNDS, () -> x.draws(-1, 1));
        due(OUT_OF_BOUNDS, () -> x.draws(5, 0));
        due(ILLEGAL, () -> x.draws(0, 0));
        due(ILLEGAL, () -> x.draws(0, 21));
        due(ILLEGAL, () -> x.draws(4, 21));
    }

    private static void skip() {
        promise = 18;
        Endlessrows x = withRow(0, 2, 4, 4, 6);
        due(REFUSED, () -> x.skip(0, 5));
        x.merge(0, 1, false);
        due(0, () -> x.skip(0, 0));
        due(0, () -> x.skip(0, 2));
        due(1, () -> x.skip(0, 4));
        due(4, () -> x.peek(0));
        due(2, () -> x.skip(0, 5));
        due(1, () -> x.skip(0, 1000000));
        due(0, () -> x.skip(0, 1000000));
        x.primes(1);
        due(20, () -> x.skip(1, 1000000));
        due(71, () -> x.ofWell(1, 3));
        due(0, () -> x.skip(1, 73));
        due(1, () -> x.skip(1, 74));
        put(x, 2, 999);
        x.table(2, 2, 2);
        due(0, () -> x.skip(2, 998001));
        due(1, () -> x.skip(2, 1000000));
        due(OUT_OF_BOUNDS, () -> x.skip(-1, 1));
        due(OUT_OF_BOUNDS, () -> x.skip(5, -1));
        due(ILLEGAL, () -> x.skip(0, -1));
        due(ILLEGAL, () -> x.skip(0, 1000001));
        due(ILLEGAL, () -> x.skip(4, 1000001));
    }

    private static void copy() {
        promise = 19;
        Endlessrows x = withRow(0, 1, 2, 3);
        put(x, 1, 1, 5);
        x.merge(0, 3, true);
        x.draws(0, 2);
        x.close(0, 1);
        x.powers(1, 3);
        due(1, () -> x.copy(0, 1));
        due("3 2 1 1 0 0 -1 0 2 1", () -> answers(x, 0));
        due("3 2 1 1 0 0 -1 0 2 1", () -> answers(x, 1));
        x.draw(1);
        due(2, () -> x.ofWell(0, 1));
        due(2, () -> x.peek(0));
        due(3, () -> x.peek(1));
        x.anew(0);
        due(1, () -> x.ofWell(1, 9));
        due("1 1 2 3 5", () -> x.text(0));
        x.anew(1);
        due("1@1,0,-1 1@0,0,-1", () -> drawnWithPlaces(x, 1, 2));
        due(2, () -> x.copy(0, 0));
        due("1 1 2 3 5", () -> x.text(0));
        due(0, () -> x.copy(4, 1));
        due("-1 0 0 -1 -1 -1 -1 0 0 0", () -> answers(x, 1));
        due(0, () -> x.copy(4, 4));
        // A copy of a well that began keeps its own rows.
        x.sums(2, 0, 1);
        x.copy(2, 3);
        x.sums(2, 1, 1);
        x.anew(3);
        due("2 3 4 6 7 8", () -> x.text(3));
        due(OUT_OF_BOUNDS, () -> x.copy(-1, 0));
        due(OUT_OF_BOUNDS, () -> x.copy(5, 0));
        due(OUT_OF_BOUNDS, () -> x.copy(0, -1));
        due(OUT_OF_BOUNDS, () -> x.copy(0, 5));
    }

    private static void shake() {
        promise = 20;
        Endlessrows x = new Endlessrows();
        due(REFUSED, () -> x.shake(0));
        x.powers(0, 63);
        x.powers(1, 63);
        for (int i = 0; i < 5; i++) {
            x.draws(0, 20);
            x.draws(1, 19);
            int size = x.ofWell(1, 2);
            due(size, () -> x.shake(1));
            x.draw(1);
            due(x.text(0), () -> x.text(1));
            due(x.ofWell(0, 2), () -> x.ofWell(1, 2));
        }
        x.primes(0);
        x.draws(0, 20);
        due(20, () -> x.shake(0));
        due(x.nth(0, 20), () -> x.draw(0));
        x.fill(0, 3, 0, 8);
        x.triples(2, 0, 0, 0);
        x.draws(2, 13);
        x.copy(2, 3);
        x.shake(3);
        due(drawnWithPlaces(x, 2, 20), () -> drawnWithPlaces(x, 3, 20));
        due(0, () -> x.sums(2, 4, 4) + x.shake(2));
        due(OUT_OF_BOUNDS, () -> x.shake(-1));
        due(OUT_OF_BOUNDS, () -> x.shake(5));
    }

    private static void anew() {
        promise = 21;
        Endlessrows x = withRow(0, 1, 2);
        put(x, 1, 3);
        due(REFUSED, () -> x.anew(0));
        x.merge(0, 3, false);
        x.draw(0);
        x.close(0, 1);
        x.clear(0);
        due(2, () -> x.anew(0));
        due("3 0 2 -1 -1 -1 -1 0 2 0", () -> answers(x, 0));
        due("1 2 3", () -> x.text(0));
        x.primes(1);
        x.draws(1, 20);
        due(0, () -> x.anew(1));
        due("2 3 5 7 11 13 17 19", () -> x.text(1));
        due(0, () -> x.sums(2, 5, 5));
        due(0, () -> x.anew(2));
        x.powers(3, 63);
        x.draws(3, 20);
        due(1, () -> x.anew(3));
        due("0 0 1 -1 -1 -1 -1 0 1 0", () -> answers(x, 3));
        due(OUT_OF_BOUNDS, () -> x.anew(-1));
        due(OUT_OF_BOUNDS, () -> x.anew(5));
    }

    private static void again() {
        promise = 22;
        Endlessrows x = withRow(0, 1, 2);
        put(x, 1, 3);
        due(REFUSED, () -> x.again(0));
        x.merge(0, 3, false);
        due(NONE, () -> x.again(0));
        due("1 2", () -> drawn(x, 0, 2));
        due(2, () -> x.again(0));
        due("3 2 1 2 0 1 -1 0 2 0", () -> answers(x, 0));
        x.close(0, 1);
        due(REFUSED, () -> x.again(0));
        due("3 2 0 2 0 1 -1 1 2 1", () -> answers(x, 0));
        x.anew(0);
        x.close(0, 0);
        due(REFUSED, () -> x.again(0));
        due("3 0 1 -1 -1 -1 -1 0 2 1", () -> answers(x, 0));
        x.anew(0);
        due(NONE, () -> x.again(0));
        x.primes(1);
        for (int i = 0; i < 5; i++) {
            x.draws(1, 20);
        }
        due(541, () -> x.again(1));
        due("5 100 100 541 -1 -1 -1 1 100 0", () -> answers(x, 1));
        due(OUT_OF_BOUNDS, () -> x.again(-1));
        due(OUT_OF_BOUNDS, () -> x.again(5));
    }

    private static void close() {
        promise = 23;
        Endlessrows x = withRow(0, 1, 4, 9);
        put(x, 1, 2, 2, 3, 8);
        put(x, 2, 5);
        due(REFUSED, () -> x.close(0, 0));
        x.merge(0, 11, false);
        due("1 2", () -> drawn(x, 0, 2));
        due(REFUSED, () -> x.close(0, 2));
        due(REFUSED, () -> x.close(0, 3));
        due(3, () -> x.close(0, 1));
        due(REFUSED, () -> x.close(0, 1));
        due("3 2 1 2 1 0 -1 0 3 1", () -> answers(x, 0));
        due("4 9", () -> x.text(0));
        due(0, () -> x.isWaiting(0, 1, 1, 0));
        due(7, () -> x.upTo(0, 9));
        due(2, () -> x.ways(0, 2));
        due(2, () -> x.close(0, 0));
        due(2, () -> x.ofWell(0, 9));
        due(1, () -> x.ofWell(0, 7));
        due(REFUSED, () -> x.draw(0));
        // What was told to its end has nothing waiting.
        x.merge(1, 5, true);
        due("1 4 5", () -> drawn(x, 1, 3));
        due(REFUSED, () -> x.close(1, 2));
        due(1, () -> x.close(1, 0));
        x.merge(1, 7, true);
        due(1, () -> x.close(1, 2));
        due(3, () -> x.close(1, 0));
        due("2 2 3 8", () -> x.text(1));
        x.sums(2, 0, 1);
        due(REFUSED, () -> x.close(2, 0));
        x.primes(3);
        due(REFUSED, () -> x.close(3, 0));
        due(OUT_OF_BOUNDS, () -> x.close(-1, 0));
        due(OUT_OF_BOUNDS, () -> x.close(5, 0));
        due(OUT_OF_BOUNDS, () -> x.close(0, -1));
        due(OUT_OF_BOUNDS, () -> x.close(0, 6));
    }

    private static void dropAndKnock() {
        promise = 24;
        Endlessrows x = new Endlessrows();
        due(0, () -> x.drop(0));
        x.powers(0, 7);
        x.draws(0, 7);
        due(7, () -> x.drop(0));
        due("-1 0 0 -1 -1 -1 -1 0 0 0", () -> answers(x, 0));
        due(0, () -> x.drop(0));
        due(REFUSED, () -> x.anew(0));
        due(OUT_OF_BOUNDS, () -> x.drop(-1));
        due(OUT_OF_BOUNDS, () -> x.drop(5));
        promise = 25;
        due(1, () -> x.knock());
        due(2, () -> x.knock());
        due(2, () -> x.house(5));
        due(3, () -> x.knock());
    }

    private static void peek() {
        promise = 26;
        Endlessrows x = withRow(0, 6);
        due(REFUSED, () -> x.peek(0));
        x.merge(0, 1, false);
        due(6, () -> x.peek(0));
        due(6, () -> x.peek(0));
        x.draw(0);
        due(REFUSED, () -> x.peek(0));
        x.primes(1);
        due(2, () -> x.peek(1));
        x.draws(1, 9);
        due(29, () -> x.peek(1));
        due("5 9 9 23 -1 -1 -1 0 9 0", () -> answers(x, 1));
        due(OUT_OF_BOUNDS, () -> x.peek(-1));
        due(OUT_OF_BOUNDS, () -> x.peek(5));
    }

    private static void ofWell() {
        promise = 27;
        Endlessrows x = withRow(0, 0, 0);
        x.triples(0, 0, 0, 0);
        due("2 0 1 -1 -1 -1 -1 0 1 0", () -> answers(x, 0));
        x.draws(0, 8);
        due("2 8 0 0 1 1 1 1 4 0", () -> answers(x, 0));
        x.powers(1, 63);
        for (int i = 0; i < 5; i++) {
            x.draws(1, 20);
        }
        due(501, () -> x.ofWell(1, 8));
        due(1, () -> x.ofWell(1, 7));
        due(x.nth(1, 99), () -> x.ofWell(1, 3));
        due(OUT_OF_BOUNDS, () -> x.ofWell(-1, 0));
        due(OUT_OF_BOUNDS, () -> x.ofWell(5, 10));
        due(ILLEGAL, () -> x.ofWell(0, -1));
        due(ILLEGAL, () -> x.ofWell(0, 10));
        due(ILLEGAL, () -> x.ofWell(4, 10));
    }

    private static void nth() {
        promise = 28;
        Endlessrows x = withRow(0, 2, 7);
        put(x, 1, 5);
        due(REFUSED, () -> x.nth(0, 0));
        x.merge(0, 3, false);
        x.draw(0);
        x.close(0, 1);
        due(2, () -> x.nth(0, 0));
        due(5, () -> x.nth(0, 1));
        due(7, () -> x.nth(0, 2));
        due(NONE, () -> x.nth(0, 3));
        due(NONE, () -> x.nth(0, 99));
        due("3 1 1 2 0 0 -1 0 2 1", () -> answers(x, 0));
        x.primes(1);
        due(541, () -> x.nth(1, 99));
        due(2, () -> x.nth(1, 0));
        x.fill(2, 0, 1, 8);
        x.triples(2, 2, 2, 2);
        due(7, () -> x.nth(2, 99));
        x.powers(3, 2);
        due(59049, () -> x.nth(3, 10));
        due(NONE, () -> x.nth(3, 11));
        due(OUT_OF_BOUNDS, () -> x.nth(-1, 0));
        due(OUT_OF_BOUNDS, () -> x.nth(5, 100));
        due(ILLEGAL, () -> x.nth(0, -1));
        due(ILLEGAL, () -> x.nth(0, 100));
        due(ILLEGAL, () -> x.nth(4, 100));
    }

    private static void upToAndWays() {
        promise = 29;
        Endlessrows x = withRow(0, 0, 2, 2, 5);
        put(x, 1, 2, 3);
        due(REFUSED, () -> x.upTo(0, 1));
        x.sums(0, 0, 1);
        due(0, () -> x.upTo(0, 1));
        due(1, () -> x.upTo(0, 2));
        due(6, () -> x.upTo(0, 5));
        due(8, () -> x.upTo(0, 1000000));
        x.draws(0, 3);
        due(8, () -> x.upTo(0, 1000000));
        x.powers(1, 63);
        due(0, () -> x.upTo(1, 0));
        due(1, () -> x.upTo(1, 1));
        due(16, () -> x.upTo(1, 16));
        due(17, () -> x.upTo(1, 18));
        x.powers(1, 7);
        due(313, () -> x.upTo(1, 100000));
        due(313, () -> x.upTo(1, 1000000));
        x.merge(2, 3, false);
        x.close(2, 0);
        due(4, () -> x.upTo(2, 2));
        x.table(3, 0, 1);
        due(2, () -> x.upTo(3, 0));
        due(4, () -> x.upTo(3, 4));
        x.primes(4);
        due(0, () -> x.upTo(4, 1));
        due(1, () -> x.upTo(4, 2));
        due(100, () -> x.upTo(4, 541));
        due(109, () -> x.upTo(4, 600));
        due(REFUSED, () -> x.upTo(4, 601));
        due(OUT_OF_BOUNDS, () -> x.upTo(-1, 0));
        due(OUT_OF_BOUNDS, () -> x.upTo(5, -1));
        due(ILLEGAL, () -> x.upTo(0, -1));
        due(ILLEGAL, () -> x.upTo(0, 1000001));
        due(ILLEGAL, () -> x.upTo(4, 1000001));
        promise = 30;
        due(1, () -> x.ways(0, 2));
        due(3, () -> x.ways(0, 5) + x.ways(0, 3));
        due(0, () -> x.ways(0, 6));
        due(0, () -> x.ways(0, 1000000));
        due(0, () -> x.ways(1, 0));
        due(1, () -> x.ways(1, 100000));
        due(0, () -> x.ways(1, 7));
        due(3, () -> x.ways(2, 2));
        due(2, () -> x.ways(3, 0));
        due(1, () -> x.ways(4, 599));
        due(0, () -> x.ways(4, 600));
        due(REFUSED, () -> x.ways(4, 601));
        x.drop(4);
        due(REFUSED, () -> x.ways(4, 5));
        due(OUT_OF_BOUNDS, () -> x.ways(-1, 0));
        due(OUT_OF_BOUNDS, () -> x.ways(5, -1));
        due(ILLEGAL, () -> x.ways(0, -1));
        due(ILLEGAL, () -> x.ways(0, 1000001));
        due(ILLEGAL, () -> x.ways(4, 1000001));
    }

    private static void waits() {
        promise = 31;
        Endlessrows x = withRow(0, 1, 4);
        put(x, 1, 1, 2, 6);
        due(REFUSED, () -> x.waits(0, 1));
        x.sums(0, 0, 1);
        due(0, () -> x.waits(0, 0));
        due(0, () -> x.waits(0, 1));
        due(1, () -> x.waits(0, 2));
        x.draw(0);
        // 3 at (0, 1) and 5 at (1, 0) wait.
        due(0, () -> x.waits(0, 2));
        due(1, () -> x.waits(0, 3));
        due(1, () -> x.waits(0, 4));
        due(2, () -> x.waits(0, 5));
        due(2, () -> x.waits(0, 1000000));
        // Told a hundred, some still wait.
        x.fill(2, 1, 1, 8);
        x.triples(1, 2, 2, 2);
        for (int i = 0; i < 5; i++) {
            x.draws(1, 20);
        }
        due(x.ofWell(1, 2), () -> x.waits(1, 1000000));
        due(true, () -> x.waits(1, 1000000) > 0);
        due(OUT_OF_BOUNDS, () -> x.waits(-1, 0));
        due(OUT_OF_BOUNDS, () -> x.waits(5, -1));
        due(ILLEGAL, () -> x.waits(0, -1));
        due(ILLEGAL, () -> x.waits(0, 1000001));
        due(ILLEGAL, () -> x.waits(4, 1000001));
    }

    private static void isWaiting() {
        promise = 32;
        Endlessrows x = withRow(0, 1, 2);
        put(x, 1, 1, 5);
        due(REFUSED, () -> x.isWaiting(0, 0, 0, 0));
        x.sums(0, 0, 1);
        due(1, () -> x.isWaiting(0, 0, 0, 0));
        due(1, () -> x.isWaiting(0, 0, 0, 1000));
        due(1, () -> x.isWaiting(0, 0, 0, -1));
        due(0, () -> x.isWaiting(0, 1, 0, 0));
        x.draw(0);
        due(0, () -> x.isWaiting(0, 0, 0, 0));
        due(1, () -> x.isWaiting(0, 1, 0, 7));
        due(1, () -> x.isWaiting(0, 0, 1, 7));
        due(0, () -> x.isWaiting(0, 0, 8, 0));
        due(0, () -> x.isWaiting(0, 1, -8, 0));
        due(0, () -> x.isWaiting(0, -1, 8, 0));
        due(0, () -> x.isWaiting(0, Integer.MAX_VALUE, Integer.MIN_VALUE, 0));
        x.table(1, 0, 1);
        due(1, () -> x.isWaiting(1, 0, 0, 9));
        x.triples(2, 0, 1, 1);
        x.draw(2);
        due(1, () -> x.isWaiting(2, 0, 0, 1));
        due(1, () -> x.isWaiting(2, 1, 0, 0));
        due(0, () -> x.isWaiting(2, 0, 0, 8));
        due(0, () -> x.isWaiting(2, 0, 0, 2));
        due(0, () -> x.isWaiting(2, 0, 1, -8));
        due(0, () -> x.isWaiting(2, 1, 0, 1));
        x.merge(3, 3, true);
        due(1, () -> x.isWaiting(3, 0, 0, 5));
        due(1, () -> x.isWaiting(3, 1, 0, 5));
        due(0, () -> x.isWaiting(3, 5, 0, 5));
        due(0, () -> x.isWaiting(3, 6, 0, 0));
        due(0, () -> x.isWaiting(3, 4, 0, 0));
        // 5 less 6 and one place on must not be taken for the row 0.
        due(0, () -> x.isWaiting(3, 6, 8, 0));
        due(0, () -> x.isWaiting(3, -1, 8, 0));
        due(0, () -> x.isWaiting(3, 0, -1, 0));
        due("1@1,0,-1", () -> drawnWithPlaces(x, 3, 1));
        due(0, () -> x.isWaiting(3, 1, 0, 0));
        due(1, () -> x.isWaiting(3, 1, 1, 0));
        due(1, () -> x.isWaiting(3, 0, 0, 0));
        x.powers(4, 1);
        due(REFUSED, () -> x.isWaiting(4, 0, 0, 0));
        x.primes(4);
        due(REFUSED, () -> x.isWaiting(4, 0, 0, 0));
        due(OUT_OF_BOUNDS, () -> x.isWaiting(-1, 0, 0, 0));
        due(OUT_OF_BOUNDS, () -> x.isWaiting(5, 0, 0, 0));
    }

    private static void total() {
        promise = 33;
        Endlessrows x = withRow(0, 1, 2, 10);
        due(REFUSED, () -> x.total(0, 1));
        x.merge(0, 1, false);
        due(1, () -> x.total(0, 1));
        due(3, () -> x.total(0, 2));
        due(13, () -> x.total(0, 20));
        x.draw(0);
        due(12, () -> x.total(0, 20));
        due("3 1 1 1 0 0 -1 0 1 0", () -> answers(x, 0));
        x.draws(0, 2);
        due(0, () -> x.total(0, 20));
        x.primes(1);
        due(639, () -> x.total(1, 20));
        for (int i = 0; i < 7; i++) {
            x.draws(1, 14);
        }
        due(523 + 541, () -> x.total(1, 20));
        for (int i = 0; i < 8; i++) {
            x.add(2, 999);
        }
        x.table(2, 2, 2);
        due(20 * 998001, () -> x.total(2, 20));
        due(OUT_OF_BOUNDS, () -> x.total(-1, 1));
        due(OUT_OF_BOUNDS, () -> x.total(5, 0));
        due(ILLEGAL, () -> x.total(0, 0));
        due(ILLEGAL, () -> x.total(0, 21));
        due(ILLEGAL, () -> x.total(4, 21));
    }

    private static void textAndAlike() {
        promise = 34;
        Endlessrows x = withRow(0, 1, 2, 3);
        due("", () -> x.text(0));
        x.sums(0, 0, 0);
        due("2 3 3 4 4 4 5 5", () -> x.text(0));
        x.draw(0);
        due("3 3 4 4 4 5 5 6", () -> x.text(0));
        x.draws(0, 7);
        due("6", () -> x.text(0));
        x.draw(0);
        due("", () -> x.text(0));
        x.primes(1);
        for (int i = 0; i < 7; i++) {
            x.draws(1, 14);
        }
        due("523 541", () -> x.text(1));
        due(OUT_OF_BOUNDS, () -> x.text(-1));
        due(OUT_OF_BOUNDS, () -> x.text(5));
        promise = 35;
        due(true, () -> x.isAlike(0, 4));
        due(false, () -> x.isAlike(0, 1));
        due(true, () -> x.isAlike(1, 1));
        x.fill(1, 1, 1, 8);
        x.add(2, 0);
        x.merge(2, 2, false);
        x.sums(3, 1, 2);
        due(true, () -> x.isAlike(2, 3));
        x.draw(2);
        due(false, () -> x.isAlike(2, 3));
        x.draw(3);
        due(true, () -> x.isAlike(3, 2));
        due(OUT_OF_BOUNDS, () -> x.isAlike(-1, 0));
        due(OUT_OF_BOUNDS, () -> x.isAlike(5, 0));
        due(OUT_OF_BOUNDS, () -> x.isAlike(0, -1));
        due(OUT_OF_BOUNDS, () -> x.isAlike(0, 5));
    }

    private static String house(Endlessrows x) {
        StringBuilder line = new StringBuilder();
        for (int what = 0; what <= 5; what++) {
            line.append(what == 0 ? "" : " ").append(x.house(what));
        }
        return line.toString();
    }

    private static void house() {
        promise = 36;
        Endlessrows x = new Endlessrows();
        due("0 0 0 0 0 0", () -> house(x));
        x.fill(0, 1, 1, 8);
        put(x, 5, 4, 4);
        x.sums(1, 1, 1);
        x.powers(3, 63);
        x.draws(3, 3);
        x.primes(4);
        x.draws(4, 7);
        x.knock();
        // Of POWERS 15 wait: 1 has six children, 2 six, and 3 five, of which 2 and 3 were told.
        due("3 1 10 22 10 1", () -> house(x));
        x.merge(0, 32, false);
        due("4 1 10 23 10 1", () -> house(x));
        x.draws(0, 2);
        due("4 2 12 22 10 1", () -> house(x));
        due(ILLEGAL, () -> x.house(-1));
        due(ILLEGAL, () -> x.house(6));
    }

    private static void isSound() {
        promise = 37;
        Endlessrows x = new Endlessrows();
        due(true, () -> x.isSound());
        x.fill(0, 3, 0, 8);
        x.fill(1, 0, 9, 8);
        x.merge(1, 3, true);
        x.draws(1, 9);
        due(true, () -> x.isSound());
        x.close(1, 1);
        due(true, () -> x.isSound());
        String before = answers(x, 1) + x.text(1);
        x.isSound();
        due(before, () -> answers(x, 1) + x.text(1));
        x.primes(0);
        for (int i = 0; i < 5; i++) {
            x.draws(0, 20);
        }
        due(true, () -> x.isSound());
        x.powers(0, 63);
        x.draws(0, 20);
        due(true, () -> x.isSound());
    }

    private static long checksum(long... values) {
        long d = 7980;
        for (long v : values) {
            d = d * 31 + v;
        }
        return d;
    }

    private static void digest() {
        promise = 38;
        Endlessrows x = new Endlessrows();
        long[] empty = {-1, 0, 0, -1, -1, -1, -1, 0, 0, 0, -9};
        long[] fresh = new long[6 + 6 + 5 * empty.length + 1];
        for (int well = 0; well < 5; well++) {
            System.arraycopy(empty, 0, fresh, 12 + well * empty.length, empty.length);
        }
        fresh[fresh.length - 1] = 1;
        due(checksum(fresh), () -> x.digest());
        put(x, 2, 3, 4);
        x.merge(1, 4, false);
        x.draw(1);
        x.knock();
        due(checksum(1, 0, 1, 1, 2, 1, 0, 0, 2, 3, 4, 0, 0, 0,
            -1, 0, 0, -1, -1, -1, -1, 0, 0, 0, -9,
            3, 1, 1, 3, 2, 0, -1, 0, 1, 0, 4,
            -1, 0, 0, -1, -1, -1, -1, 0, 0, 0, -9,
            -1, 0, 0, -1, -1, -1, -1, 0, 0, 0, -9,
            -1, 0, 0, -1, -1, -1, -1, 0, 0, 0, -9, 1), () -> x.digest());
        due(x.digest(), () -> x.digest());
    }

    public static void main(String[] args) {
        newObject();
        add();
        cut();
        clear();
        fill();
        rowAt();
        rowSizeAndText();
        least();
        powers();
        sums();
        triples();
        merge();
        table();
        primes();
        draw();
        draws();
        skip();
        copy();
        shake();
        anew();
        again();
        close();
        dropAndKnock();
        peek();
        ofWell();
        nth();
        upToAndWays();
        waits();
        isWaiting();
        total();
        textAndAlike();
        house();
        isSound();
        digest();
        System.out.println(asked + " answers asked, " + wrong + " not as due");
        if (wrong != 0) {
            System.exit(1);
        }
    }
}
