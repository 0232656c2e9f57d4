import java.lang.reflect.Constructor;
import java.lang.reflect.Field;
import java.lang.reflect.InvocationTargetException;
import java.lang.reflect.Method;
import java.lang.reflect.Modifier;
import java.util.Set;
import java.util.TreeSet;

/** The public face of the document and no more, and that no call throws, whatever it is given. */
public final class FaceTest {
    private static final Set<String> FACE = Set.of(
        "boolean sea(int,int)", "boolean land(int,int)", "boolean swell(int,int)", "boolean drifts(int,int)",
        "boolean watches(int,int)", "int look(int)", "long reckoned()", "boolean begin(long)", "boolean put(int)",
        "int steer(int,int)", "int sign(int,int,int)", "int see(int,int)", "int sights()",
        "int feed(int,int,int,int,int)", "int end(int)", "int chant()", "int fault(int)", "int sure(int)",
        "int from(int)", "int sings(int)", "int blind(int)");
    private static final int[] ODD = {Integer.MIN_VALUE, Integer.MIN_VALUE + 1, -513, -64, -2, -1, 0, 1, 2, 3, 4, 5, 6,
        7, 8, 9, 10, 15, 16, 21, 22, 63, 64, 99, 163, 164, 263, 264, 511, 512, 0x73746565, 0x72203020, 0x3b3b3b3b,
        Integer.MAX_VALUE - 1, Integer.MAX_VALUE};

    private final Due due = new Due();

    public static void main(String[] args) throws ReflectiveOperationException {
        FaceTest test = new FaceTest();
        test.face();
        test.classesInside();
        test.neverThrows();
        test.due.finish();
    }

    private void face() throws ReflectiveOperationException {
        Class<?> c = CanoeMaster.class;
        due.is("the class is public and final", Modifier.isPublic(c.getModifiers()) && Modifier.isFinal(c.getModifiers()), true);
        Set<String> open = new TreeSet<>();
        Set<String> names = new TreeSet<>();
        for (Method m : c.getDeclaredMethods()) {
            if (!Modifier.isPrivate(m.getModifiers())) {
                open.add(told(m));
                names.add(m.getName());
            }
        }
        due.is("the open methods are the face's: " + open, open.equals(FACE), true);
        for (Method m : c.getDeclaredMethods()) {
            due.is(m + " bears a public name", Modifier.isPrivate(m.getModifiers()) && names.contains(m.getName()), false);
        }
        for (Field f : c.getDeclaredFields()) {
            due.is(f + " is private or NONE", Modifier.isPrivate(f.getModifiers()) || f.getName().equals("NONE"), true);
        }
        due.is("NONE is a public constant", c.getField("NONE").getModifiers(), Modifier.PUBLIC | Modifier.STATIC | Modifier.FINAL);
        Constructor<?>[] made = c.getDeclaredConstructors();
        due.is("there is one constructor, public and bare", made.length == 1 && Modifier.isPublic(made[0].getModifiers())
            && made[0].getParameterCount() == 0, true);
    }

    private void classesInside() {
        for (Class<?> c : CanoeMaster.class.getDeclaredClasses()) {
            int bits = c.getModifiers();
            due.is(c + " is static", Modifier.isStatic(bits), true);
            due.is(c + " is private or package-visible", Modifier.isPublic(bits) || Modifier.isProtected(bits), false);
            int held = 0;
            for (Field f : c.getDeclaredFields()) {
                held += Modifier.isStatic(f.getModifiers()) ? 0 : 1;
                boolean changes = Modifier.isStatic(f.getModifiers()) && !Modifier.isFinal(f.getModifiers());
                due.is(f + " is static and not final", changes, false);
            }
            due.is(c + " has twenty fields at most, not " + held, held <= 20, true);
            for (Method m : c.getDeclaredMethods()) {
                due.is(m + " bears a name of the face", FACE.stream().anyMatch(f -> f.contains(" " + m.getName() + "(")), false);
            }
        }
    }

    private static String told(Method m) {
        StringBuilder s = new StringBuilder();
        s.append(m.getReturnType()).append(' ').append(m.getName()).append('(');
        for (Class<?> p : m.getParameterTypes()) {
            s.append(s.charAt(s.length() - 1) == '(' ? "" : ",").append(p);
        }
        return s.append(')').toString();
    }

    private void neverThrows() throws ReflectiveOperationException {
        long seed = 1;
        for (int run = 0; run < 200; run++) {
            CanoeMaster x = new CanoeMaster();
            if (run % 2 == 1) {
                x.sea(8, 8);
                x.land(63, 3);
            }
            for (int call = 0; call < 20; call++) {
                for (Method m : CanoeMaster.class.getMethods()) {
                    if (m.getDeclaringClass() == CanoeMaster.class) {
                        Object[] given = new Object[m.getParameterCount()];
                        for (int i = 0; i < given.length; i++) {
                            seed = seed * 6364136223846793005L + 1442695040888963407L;
                            int odd = ODD[(int) ((seed >>> 33) % ODD.length)];
                            given[i] = m.getParameterTypes()[i] == long.class ? (Object) ((long) odd * odd) : (Object) odd;
                        }
                        tell(x, m, given);
                    }
                }
            }
        }
    }

    private void tell(CanoeMaster x, Method m, Object[] given) throws ReflectiveOperationException {
        try {
            m.invoke(x, given);
        } catch (InvocationTargetException e) {
            due.is(m + " of " + java.util.Arrays.toString(given) + " threw " + e.getCause(), 1, 0);
        }
    }
}
