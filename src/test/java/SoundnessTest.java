import java.lang.reflect.Field;

/**
 * isSound() on objects that no call of the face makes: their private fields are spoilt by reflection, one sentence of
 * promise 37 at a time, just within it and just outside.
 */
public final class SoundnessTest extends Edges {
    private static final int TAGS = 1024;

    // ---- what holds the state, found by the names in Endlessrows

    private static Object get(Object of, String name) {
        try {
            Field field = of.getClass().getDeclaredField(name);
            field.setAccessible(true);
            return field.get(of);
        } catch (ReflectiveOperationException e) {
            throw new IllegalStateException(e);
        }
    }

    private static void set(Object of, String name, int number) {
        try {
            Field field = of.getClass().getDeclaredField(name);
            field.setAccessible(true);
            field.setInt(of, number);
        } catch (ReflectiveOperationException e) {
            throw new IllegalStateException(e);
        }
    }

    private static void spoilRow(Endlessrows x, int row, int... numbers) {
        Object spoilt = ((Object[]) get(x, "rows"))[row];
        System.arraycopy(numbers, 0, (int[]) get(spoilt, "numbers"), 0, numbers.length);
        set(spoilt, "count", numbers.length);
    }

    private static Object well(Endlessrows x, int well) {
        return ((Object[]) get(x, "wells"))[well];
    }

    private static Object queue(Endlessrows x, int well) {
        return get(well(x, well), "queue");
    }

    private static void swapFirstTwoKeys(Endlessrows x, int well) {
        int[] keys = (int[]) get(queue(x, well), "keys");
        int first = keys[0];
        keys[0] = keys[1];
        keys[1] = first;
    }

    // ---- the sentences

    @Says(promise = 37, words = "the numbers of each ROW do not fall")
    private static void rowsThatFallAreNotSound() {
        for (int r = 0; r < 6; r++) {
            int row = r;
            due(true, x -> spoilRow(x, row, 5, 5), x -> x.isSound());
            due(false, x -> spoilRow(x, row, 5, 4), x -> x.isSound());
            due(true, x -> spoilRow(x, row, 5, 6), x -> x.isSound());
            due(true, x -> spoilRow(x, row, 1, 2, 3, 4, 5, 6, 7, 7), x -> x.isSound());
            due(false, x -> spoilRow(x, row, 1, 2, 3, 4, 5, 6, 7, 6), x -> x.isSound());
            // What stands behind the numbers of the row does not count.
            due(true, inTurn(x -> spoilRow(x, row, 7, 7, 6), x -> x.cut(row)), x -> x.isSound());
        }
    }

    @Says(promise = 37, words = "of each WELL SIZE is not above LIMIT")
    private static void wellsAboveTheirLimitAreNotSound() {
        for (int w = 0; w < 5; w++) {
            int well = w;
            Run one = x -> x.powers(well, 63);
            due(true, one, x -> x.isSound());
            due(false, inTurn(one, x -> set(queue(x, well), "size", 2)), x -> x.isSound());
            due(false, x -> set(queue(x, well), "size", 1), x -> x.isSound());
            // One less than the LIMIT is fine.
            due(true, inTurn(x -> x.merge(well, 63, false)), x -> x.isSound());
        }
    }

    private static final Run TOLD = x -> {
        put(x, 0, 1, 2, 2, 5);
        x.merge(1, 1, false);
        x.draws(1, 2);
        x.merge(3, 1, false);
    };

    @Says(promise = 37, words = "DRAWN is not above upTo() of the number of LAST, if there is one")
    private static void toldMoreThanThereIsNotSound() {
        // 2 is the LAST, and 3 are up to it.
        due(true, inTurn(TOLD, x -> set(well(x, 1), "drawn", 3)), x -> x.isSound());
        due(false, inTurn(TOLD, x -> set(well(x, 1), "drawn", 4)), x -> x.isSound());
        // Without a LAST: its number would be 0, and nothing is up to that.
        due(true, inTurn(TOLD, x -> x.anew(1)), x -> x.isSound());
        due(false, inTurn(TOLD, x -> x.anew(1), x -> set(well(x, 1), "drawn", 1)), x -> x.isSound());
    }

    @Says(promise = 37, words = "and no row is CLOSED")
    private static void closedRowsAreNotCounted() {
        Run closed = inTurn(TOLD, x -> x.close(1, 0));
        due(true, inTurn(closed, x -> set(well(x, 1), "drawn", 4)), x -> x.isSound());
    }

    @Says(promise = 37, words = "and that is not above 600 or the KIND is not 5")
    private static void primesAboveSixHundredAreNotCounted() {
        Run primes = x -> x.primes(0);
        // 109 primes are up to 599 and 600.
        Run at600 = inTurn(primes, x -> set(well(x, 0), "lastKey", 600 * TAGS));
        due(true, inTurn(at600, x -> set(well(x, 0), "drawn", 109)), x -> x.isSound());
        due(false, inTurn(at600, x -> set(well(x, 0), "drawn", 110)), x -> x.isSound());
        Run at601 = inTurn(primes, x -> set(well(x, 0), "lastKey", 601 * TAGS));
        due(true, inTurn(at601, x -> set(well(x, 0), "drawn", 110)), x -> x.isSound());
        // Of another KIND a LAST above 600 counts.
        Run single = x -> {
            put(x, 0, 601, 700);
            x.merge(0, 1, false);
            x.draw(0);
        };
        due(true, single, x -> x.isSound());
        due(false, inTurn(single, x -> set(well(x, 0), "drawn", 2)), x -> x.isSound());
    }

    private static final Run TWO_WAIT = x -> {
        put(x, 0, 1, 2);
        put(x, 1, 3, 4);
        x.merge(1, 3, false);
    };

    @Says(promise = 37, words = "and a copy of that WELL that is shaken is alike.")
    private static void queueOutOfOrderIsNotSound() {
        due(true, TWO_WAIT, x -> x.isSound());
        due(false, inTurn(TWO_WAIT, x -> swapFirstTwoKeys(x, 1)), x -> x.isSound());
        // The copy is shaken, not the well itself.
        due("3 1 2 4", inTurn(TWO_WAIT, x -> swapFirstTwoKeys(x, 1), x -> x.isSound()), x -> x.text(1));
    }

    @Says(promise = 20, words = "come into a new queue")
    private static void shakeMakesANewQueue() {
        Run spoilt = inTurn(TWO_WAIT, x -> swapFirstTwoKeys(x, 1));
        due("1 2 3 4", spoilt, x -> x.shake(1) == 2 ? x.text(1) : "");
        due(true, inTurn(spoilt, x -> x.shake(1)), x -> x.isSound());
    }

    @Says(promise = 37, words = "of the first WELL that is not EMPTY")
    private static void wellsBehindTheFirstAreNotLookedAt() {
        due(true, inTurn(TOLD, x -> set(well(x, 3), "drawn", 4)), x -> x.isSound());
        due(true, inTurn(TWO_WAIT, x -> x.primes(0), x -> swapFirstTwoKeys(x, 1)), x -> x.isSound());
        due(false, inTurn(TWO_WAIT, x -> x.copy(1, 4), x -> x.drop(1), x -> swapFirstTwoKeys(x, 4)), x -> x.isSound());
    }

    @Says(promise = 37, words = "Returns whether all of this is so")
    private static void digestEndsWithZeroThen() {
        Run unsound = inTurn(TWO_WAIT, x -> swapFirstTwoKeys(x, 1));
        // But for the last term only peek() of the well 1 is another one: 3 in place of 1, ahead of 33 more.
        long power = 31;
        for (int i = 0; i < 33; i++) {
            power *= 31;
        }
        long due = 2 * power - 1;
        due(due, unsound, x -> {
            Endlessrows sound = new Endlessrows();
            TWO_WAIT.on(sound);
            return x.digest() - sound.digest();
        });
    }

    public static void main(String[] args) {
        runAll(SoundnessTest.class, 37, 37);
    }
}
