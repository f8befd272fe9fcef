import java.lang.management.ManagementFactory;
import java.lang.reflect.Constructor;
import java.lang.reflect.Field;
import java.lang.reflect.Member;
import java.lang.reflect.Method;
import java.lang.reflect.Modifier;
import java.util.ArrayList;
import java.util.Arrays;
import java.util.List;
import java.util.Set;
import java.util.TreeSet;

/** The public face as the document tells it, the rules of LANGUAGE.md that reflection shows, and the room. */
public final class FaceTest {
    private static final String BOTH = " IndexOutOfBoundsException IllegalArgumentException";
    private static final String BOUNDS = " IndexOutOfBoundsException";
    private static final String LEGAL = " IllegalArgumentException";

    private static final String[] FACE = {
        "int add(int,int)" + BOTH, "int cut(int)" + BOUNDS, "int clear(int)" + BOUNDS,
        "int fill(int,int,int,int)" + BOTH, "int rowAt(int,int)" + BOUNDS, "int rowSize(int)" + BOUNDS,
        "String rowText(int)" + BOUNDS, "int least(int,int)" + LEGAL, "int powers(int,int)" + BOTH,
        "int sums(int,int,int)" + BOUNDS, "int triples(int,int,int,int)" + BOUNDS,
        "int merge(int,int,boolean)" + BOTH, "int table(int,int,int)" + BOUNDS, "int primes(int)" + BOUNDS,
        "int draw(int)" + BOUNDS, "int draws(int,int)" + BOTH, "int skip(int,int)" + BOTH,
        "int copy(int,int)" + BOUNDS, "int shake(int)" + BOUNDS, "int anew(int)" + BOUNDS, "int again(int)" + BOUNDS,
        "int close(int,int)" + BOUNDS, "int drop(int)" + BOUNDS, "int knock()", "int peek(int)" + BOUNDS,
        "int ofWell(int,int)" + BOTH, "int nth(int,int)" + BOTH, "int upTo(int,int)" + BOTH,
        "int ways(int,int)" + BOTH, "int waits(int,int)" + BOTH, "int isWaiting(int,int,int,int)" + BOUNDS,
        "int total(int,int)" + BOTH, "String text(int)" + BOUNDS, "boolean isAlike(int,int)" + BOUNDS,
        "int house(int)" + LEGAL, "boolean isSound()", "long digest()",
    };

    private static final int MOST_CALLS = 512;
    // 7.3 million fields and elements, were each a single byte: far below what the room lets in.
    private static final long ROOM = 7300000;

    private static int wrong = 0;

    private static void expect(boolean isSo, String what) {
        if (!isSo) {
            wrong++;
            System.out.println("not so: " + what);
        }
    }

    private static String signature(Method method) {
        List<String> parameters = new ArrayList<>();
        for (Class<?> type : method.getParameterTypes()) {
            parameters.add(type.getSimpleName());
        }
        StringBuilder line = new StringBuilder(method.getReturnType().getSimpleName());
        line.append(' ').append(method.getName()).append('(').append(String.join(",", parameters)).append(')');
        for (Class<?> thrown : method.getExceptionTypes()) {
            line.append(' ').append(thrown.getSimpleName());
        }
        return line.toString();
    }

    private static boolean isPrivate(Member member) {
        return Modifier.isPrivate(member.getModifiers()) || member.isSynthetic();
    }

    private static void face() {
        Class<?> of = Endlessrows.class;
        expect(Modifier.isPublic(of.getModifiers()) && Modifier.isFinal(of.getModifiers()), "public final class");
        expect(of.getPackage() == null || of.getPackage().getName().isEmpty(), "no package");
        Set<String> found = new TreeSet<>();
        Set<String> names = new TreeSet<>();
        for (Method method : of.getDeclaredMethods()) {
            if (Modifier.isPublic(method.getModifiers())) {
                expect(!Modifier.isStatic(method.getModifiers()), method.getName() + " belongs to an object");
                found.add(signature(method));
                names.add(method.getName());
            } else {
                expect(isPrivate(method), method.getName() + " is private");
            }
        }
        expect(found.equals(new TreeSet<>(Arrays.asList(FACE))), "the document's methods alone, not " + found);
        Constructor<?>[] constructors = of.getDeclaredConstructors();
        expect(constructors.length == 1 && constructors[0].getParameterCount() == 0
            && Modifier.isPublic(constructors[0].getModifiers()), "one public constructor");
        List<Class<?>> all = new ArrayList<>(Arrays.asList(of.getDeclaredClasses()));
        all.add(of);
        for (Class<?> one : all) {
            expect(one == of || Modifier.isStatic(one.getModifiers()), one + " is static");
            for (Method method : one.getDeclaredMethods()) {
                boolean isOfFace = one == of && Modifier.isPublic(method.getModifiers());
                expect(isOfFace || !names.contains(method.getName()), method + " bears the name of a public one");
                expect(method.getParameterCount() <= 7, method + " takes at most seven");
            }
            for (Field field : one.getDeclaredFields()) {
                expect(one != of || isPrivate(field), field + " is private");
                expect(!Modifier.isStatic(field.getModifiers()) || Modifier.isFinal(field.getModifiers()),
                    field + " is no static state");
            }
        }
        expect(all.size() <= 12, "at most twelve classes");
    }

    private static void dearest(Endlessrows x, int call) {
        switch (call) {
            case 0: x.digest(); break;
            case 1: x.isAlike(0, 1); break;
            case 2: x.triples(2, 0, 1, 2); break;
            case 3: x.nth(0, 99); break;
            case 4: x.copy(0, 4); break;
            case 5: x.again(0); break;
            case 6: x.least(63, 47); break;
            case 7: x.rowText(0); break;
            case 8: x.total(1, 20); break;
            default: x.shake(0); break;
        }
    }

    private static void room() {
        com.sun.management.ThreadMXBean threads = (com.sun.management.ThreadMXBean) ManagementFactory.getThreadMXBean();
        long thread = Thread.currentThread().getId();
        for (int call = 0; call <= 9; call++) {
            long before = threads.getThreadAllocatedBytes(thread);
            Endlessrows x = new Endlessrows();
            for (int row = 0; row < 6; row++) {
                x.fill(row, 99, 99, 8);
            }
            x.powers(0, 63);
            for (int i = 0; i < 5; i++) {
                x.draws(0, 20);
            }
            x.again(0);
            x.table(1, 0, 1);
            for (int i = 14; i < MOST_CALLS; i++) {
                dearest(x, call);
            }
            long bytes = threads.getThreadAllocatedBytes(thread) - before;
            expect(bytes < ROOM, "512 calls like dearest " + call + " stay in the room: " + bytes + " bytes");
        }
    }

    public static void main(String[] args) {
        face();
        room();
        System.out.println(wrong == 0 ? "the face and the room are as due" : wrong + " things are not so");
        if (wrong != 0) {
            System.exit(1);
        }
    }
}
