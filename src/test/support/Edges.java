import java.io.IOException;
import java.lang.annotation.ElementType;
import java.lang.annotation.Retention;
import java.lang.annotation.RetentionPolicy;
import java.lang.annotation.Target;
import java.lang.reflect.InvocationTargetException;
import java.lang.reflect.Method;
import java.nio.file.Files;
import java.nio.file.Path;
import java.util.ArrayList;
import java.util.Arrays;
import java.util.Comparator;
import java.util.HashMap;
import java.util.IdentityHashMap;
import java.util.List;
import java.util.Map;

/**
 * What the tests of edges share: each asks one call behind a run on a new object. All that can be asked of an object
 * is asked on many objects with the same run behind them, as each is good for 512 calls only.
 */
abstract class Edges {
    static final int NONE = -1;
    static final int REFUSED = -9;

    private static final String OUT_OF_BOUNDS = "throws.IndexOutOfBoundsException";
    private static final String ILLEGAL = "throws.IllegalArgumentException";
    private static final int QUESTIONS_AN_OBJECT = 300;

    /** The words of the document that a test holds to; promise 0 is the part ahead of the promises. */
    @Retention(RetentionPolicy.RUNTIME)
    @Target(ElementType.METHOD)
    @interface Says {
        int promise();

        String words();
    }

    interface Run {
        void on(Endlessrows x);
    }

    interface Call {
        Object on(Endlessrows x);
    }

    interface CallWith {
        Object on(Endlessrows x, int number);
    }

    private static final Map<Run, List<Object>> KNOWN = new IdentityHashMap<>();
    private static Method test;
    private static int asked;
    private static int wrong;

    static final Run NOTHING = x -> { };

    /** Rows of each size; wells with a CLOSED row, partly told, DRY by 100 with some WAITING, PRIMES, EMPTY. */
    static final Run HOUSE = x -> {
        x.fill(0, 3, 2, 3);
        x.fill(1, 0, 99, 8);
        x.fill(3, 5, 0, 4);
        x.add(4, 999);
        x.fill(5, 5, 3, 2);
        x.merge(0, 59, true);
        x.draws(0, 6);
        x.close(0, 1);
        x.triples(1, 0, 1, 3);
        x.draws(1, 20);
        x.powers(2, 63);
        drawAll(x, 2);
        x.primes(3);
        x.draws(3, 12);
        x.knock();
    };

    /** No well EMPTY: SUMS told to their end, a TABLE begun, PRIMES with 100 told, all rows CLOSED, POWERS begun. */
    static final Run DRY_HOUSE = x -> {
        x.fill(0, 0, 1, 8);
        x.fill(2, 1, 0, 7);
        x.sums(0, 2, 0);
        drawAll(x, 0);
        x.table(1, 0, 2);
        x.draws(1, 9);
        x.primes(2);
        drawAll(x, 2);
        x.merge(3, 5, false);
        x.close(3, 0);
        x.close(3, 2);
        x.powers(4, 7);
        x.draws(4, 7);
    };

    // ---- runs

    static Run inTurn(Run... runs) {
        return x -> {
            for (Run run : runs) {
                run.on(x);
            }
        };
    }

    static void put(Endlessrows x, int row, int... numbers) {
        x.clear(row);
        for (int number : numbers) {
            x.add(row, number);
        }
    }

    /** Till the well is DRY. */
    static void drawAll(Endlessrows x, int well) {
        for (int i = 0; i < 5; i++) {
            x.draws(well, 20);
        }
    }

    static void drawTimes(Endlessrows x, int well, int times) {
        for (int i = 0; i < times; i++) {
            x.draw(well);
        }
    }

    // ---- what is asked

    static String ofWell(Endlessrows x, int well) {
        StringBuilder line = new StringBuilder();
        for (int what = 0; what <= 9; what++) {
            line.append(what == 0 ? "" : " ").append(x.ofWell(well, what));
        }
        return line.toString();
    }

    /** Number and PLACES of each of the next ENTRIES, which are told. */
    static String told(Endlessrows x, int well, int times) {
        StringBuilder line = new StringBuilder();
        for (int i = 0; i < times; i++) {
            line.append(i == 0 ? "" : " ").append(x.draw(well));
            for (int what = 4; what <= 6; what++) {
                int place = x.ofWell(well, what);
                line.append(place == NONE ? "" : what == 4 ? "@" : ",").append(place == NONE ? "" : place);
            }
        }
        return line.toString();
    }

    /** How many WAITING ones have just this number. */
    static int waitsJust(Endlessrows x, int well, int number) {
        return x.waits(well, number) - (number == 0 ? 0 : x.waits(well, number - 1));
    }

    private static Object answer(Endlessrows x, Call call) {
        try {
            return call.on(x);
        } catch (RuntimeException e) {
            // The very class: what the machine throws is of a class below the document's.
            String name = e.getClass().getName();
            return "throws." + (name.startsWith("java.lang.") ? name.substring("java.lang.".length()) : name);
        }
    }

    private static Object answer(Run run, Call call) {
        Endlessrows x = new Endlessrows();
        run.on(x);
        return answer(x, call);
    }

    private static List<Object> answers(Run run, List<Call> calls) {
        List<Object> found = new ArrayList<>();
        Endlessrows x = null;
        for (int i = 0; i < calls.size(); i++) {
            if (i % QUESTIONS_AN_OBJECT == 0) {
                x = new Endlessrows();
                run.on(x);
            }
            found.add(answer(x, calls.get(i)));
        }
        return found;
    }

    private static List<Object> rowAnswers(Run run) {
        List<Call> calls = new ArrayList<>();
        for (int r = 0; r < 6; r++) {
            int row = r;
            calls.add(x -> x.rowSize(row));
            calls.add(x -> x.rowText(row));
            for (int p = 0; p < 8; p++) {
                int place = p;
                calls.add(x -> x.rowAt(row, place));
            }
        }
        return answers(run, calls);
    }

    /** All that can be asked of a well, and what it tells then, also when it has begun anew. */
    private static List<Object> wellAnswers(Run run, int well) {
        List<Call> calls = new ArrayList<>(Arrays.asList(x -> ofWell(x, well), x -> x.peek(well), x -> x.text(well),
            x -> x.total(well, 1), x -> x.total(well, 20)));
        for (int i = 0; i < 100; i++) {
            int n = i;
            calls.add(x -> x.nth(well, n));
        }
        for (int i = 1; i <= 1000000; i = i < 32 ? i + 1 : i * 5 / 4) {
            int number = i;
            calls.add(x -> x.upTo(well, number));
            calls.add(x -> x.ways(well, number));
            calls.add(x -> x.waits(well, number));
        }
        int thirds = answer(run, x -> x.ofWell(well, 0)).equals(2) ? 8 : 1;
        for (int i = 0; i < 64 * thirds; i++) {
            int places = i;
            calls.add(x -> x.isWaiting(well, places % 8, places / 8 % 8, places / 64));
        }
        List<Object> found = answers(run, calls);
        found.add(answer(run, x -> told(x, well, 100)));
        found.add(answer(inTurn(run, x -> x.anew(well)), x -> told(x, well, 100)));
        return found;
    }

    private static List<Object> allAnswers(Run run) {
        List<Object> found = KNOWN.get(run);
        if (found == null) {
            found = rowAnswers(run);
            for (int well = 0; well < 5; well++) {
                found.addAll(wellAnswers(run, well));
            }
            for (int i = 0; i <= 5; i++) {
                int what = i;
                found.add(answer(run, x -> x.house(what)));
            }
            found.add(answer(run, x -> x.isSound()));
            found.add(answer(run, x -> x.digest()));
            KNOWN.put(run, found);
        }
        return found;
    }

    // ---- what is due

    private static void expect(boolean isSo, String what) {
        asked++;
        if (isSo) {
            return;
        }
        wrong++;
        int line = 0;
        for (StackTraceElement step : new Throwable().getStackTrace()) {
            if (test != null && step.getClassName().equals(test.getDeclaringClass().getName())) {
                line = step.getLineNumber();
            }
            if (test != null && step.getMethodName().equals(test.getName())) {
                break;
            }
        }
        Says says = test == null ? null : test.getAnnotation(Says.class);
        System.out.println((says == null ? "" : "promise " + says.promise() + " \"" + says.words() + "\", "
            + test.getName() + ", line " + line + ": ") + what);
    }

    static void due(Object want, Run run, Call call) {
        Object got = answer(run, call);
        expect(want.equals(got), "answered " + got + ", due is " + want);
    }

    /** A question, or a call that can't be done: nothing that can be asked is otherwise behind it. */
    static void unchanged(Run run, Call call) {
        List<Object> before = allAnswers(run);
        List<Object> after = allAnswers(inTurn(run, x -> answer(x, call)));
        expect(before.equals(after), "changed something");
    }

    static void refused(Run run, Call call) {
        due(REFUSED, run, call);
        unchanged(run, call);
    }

    static void outOfBounds(Run run, Call call) {
        due(OUT_OF_BOUNDS, run, call);
        unchanged(run, call);
    }

    static void illegal(Run run, Call call) {
        due(ILLEGAL, run, call);
        unchanged(run, call);
    }

    /** What is just within is let, what is just outside throws, behind the run and on a new object. */
    static void boundsAre(int lowest, int highest, Run run, CallWith call) {
        isLetWithin(lowest, highest, run, call);
        for (int number : outside(lowest, highest)) {
            outOfBounds(run, x -> call.on(x, number));
            outOfBounds(NOTHING, x -> call.on(x, number));
        }
    }

    /** As boundsAre, for what the document calls illegal. */
    static void legalAre(int lowest, int highest, Run run, CallWith call) {
        isLetWithin(lowest, highest, run, call);
        for (int number : outside(lowest, highest)) {
            illegal(run, x -> call.on(x, number));
            illegal(NOTHING, x -> call.on(x, number));
        }
    }

    private static int[] outside(int lowest, int highest) {
        return new int[] {lowest - 1, highest + 1, Integer.MIN_VALUE, Integer.MAX_VALUE};
    }

    private static void isLetWithin(int lowest, int highest, Run run, CallWith call) {
        for (int number : new int[] {lowest, highest}) {
            isLet(run, x -> call.on(x, number));
            isLet(NOTHING, x -> call.on(x, number));
        }
    }

    private static void isLet(Run run, Call call) {
        Object got = answer(run, call);
        expect(!got.toString().startsWith("throws."), "answered " + got + ", but is let");
    }

    /** All that can be asked of both wells is the same. */
    static void sameWells(Run one, int well, Run other, int otherWell) {
        expect(wellAnswers(one, well).equals(wellAnswers(other, otherWell)), "the wells are not the same");
    }

    static void sameObjects(Run one, Run other) {
        expect(allAnswers(one).equals(allAnswers(other)), "the objects are not the same");
    }

    // ---- all tests of a class

    /** Runs each method that Says something, and looks up the words; each line of these promises has to be quoted. */
    static void runAll(Class<?> tests, int firstPromise, int lastPromise) {
        List<Method> found = new ArrayList<>();
        for (Method method : tests.getDeclaredMethods()) {
            if (method.isAnnotationPresent(Says.class)) {
                found.add(method);
            }
        }
        found.sort(Comparator.comparing((Method m) -> m.getAnnotation(Says.class).promise())
            .thenComparing(Method::getName));
        for (Method method : found) {
            runOne(method);
        }
        test = null;
        lookUp(found, firstPromise, lastPromise);
        System.out.println(found.size() + " edges, " + asked + " things asked, " + wrong + " not as due");
        if (wrong != 0 || found.isEmpty()) {
            System.exit(1);
        }
    }

    private static void runOne(Method method) {
        test = method;
        KNOWN.keySet().removeIf(run -> run != HOUSE && run != DRY_HOUSE && run != NOTHING);
        try {
            method.setAccessible(true);
            method.invoke(null);
        } catch (InvocationTargetException e) {
            expect(false, "ended by " + e.getCause());
        } catch (IllegalAccessException e) {
            throw new IllegalStateException(e);
        }
    }

    private static void lookUp(List<Method> found, int firstPromise, int lastPromise) {
        Map<Integer, String> sections = sections();
        if (sections.isEmpty()) {
            System.out.println("no ../shared/DOC.md here: the quoted words are not looked up");
            return;
        }
        for (Method method : found) {
            Says says = method.getAnnotation(Says.class);
            expect(sections.getOrDefault(says.promise(), "").contains(says.words()),
                "promise " + says.promise() + " does not say \"" + says.words() + "\"");
        }
        for (int promise = firstPromise; promise <= lastPromise; promise++) {
            for (String line : sections.getOrDefault(promise, "").split("\n")) {
                expect(!isToBeQuoted(line, promise) || isQuoted(line, promise, found),
                    "promise " + promise + ": no test of \"" + line + "\"");
            }
        }
    }

    private static boolean isToBeQuoted(String line, int promise) {
        return promise > 0 && (line.startsWith("Returns ") || line.startsWith("Throws "));
    }

    private static boolean isQuoted(String line, int promise, List<Method> found) {
        for (Method method : found) {
            Says says = method.getAnnotation(Says.class);
            if (says.promise() == promise && line.contains(says.words())) {
                return true;
            }
        }
        return false;
    }

    private static Map<Integer, String> sections() {
        Map<Integer, String> sections = new HashMap<>();
        Path document = Path.of("..", "shared", "DOC.md");
        if (!Files.isReadable(document)) {
            return sections;
        }
        try {
            int promise = 0;
            for (String line : Files.readAllLines(document)) {
                if (line.startsWith("## Promise ")) {
                    promise = Integer.parseInt(line.substring("## Promise ".length(), line.indexOf(':')));
                }
                sections.merge(promise, line + "\n", String::concat);
            }
        } catch (IOException e) {
            throw new IllegalStateException(e);
        }
        return sections;
    }
}
