import java.lang.reflect.Constructor;
import java.lang.reflect.Executable;
import java.lang.reflect.Field;
import java.lang.reflect.Method;
import java.lang.reflect.Modifier;
import java.util.Arrays;
import java.util.HashSet;
import java.util.NoSuchElementException;
import java.util.Set;
import java.util.TreeSet;

/** The public face, the constants, and promise 1. */
public final class FaceTest {
    private static final String[] METHODS = {
        "int feed(int,int,int,int,int)", "boolean end(int)", "int fault()", "int cover()", "int word(int,int)",
        "int loss(int,int,int,int,int,int)", "int may(int,int)", "int paid(int,int)", "boolean put(int,int)",
        "int judge(int)", "int brings(int,int)", "int year(int,int,boolean)", "int most(int,int,int)",
        "int net(int,int,int)", "int ends(int,int,int)", "int hangs(int)", "int told(int,int,int)",
        "int layers(int,boolean)", "int nearest(int,int)", "int storm(int,int)", "int mean(int,int)",
        "int game(int,int,int)", "boolean mend(int,int,int)", "int count(int)"};

    public static void main(String[] args) {
        Class<?> c = StormParting.class;
        Check.due("public final", Modifier.isPublic(c.getModifiers()) && Modifier.isFinal(c.getModifiers()), true);
        Set<String> open = new TreeSet<>();
        Set<String> names = new HashSet<>();
        for (Method m : c.getDeclaredMethods()) {
            if (!Modifier.isPrivate(m.getModifiers()) && !m.isSynthetic()) {
                open.add(told(m));
                names.add(m.getName());
                Check.due("public: " + m, Modifier.isPublic(m.getModifiers()) && !Modifier.isStatic(m.getModifiers()), true);
            }
        }
        Check.due("methods " + open, open.equals(new TreeSet<>(Arrays.asList(METHODS))), true);
        for (Class<?> inner : c.getDeclaredClasses()) {
            Check.due("static: " + inner, Modifier.isStatic(inner.getModifiers()) && !Modifier.isPublic(inner.getModifiers()), true);
            for (Method m : inner.getDeclaredMethods()) {
                Check.due("no method of an inner class bears a public name: " + m, names.contains(m.getName()), false);
            }
        }
        for (Method m : c.getDeclaredMethods()) {
            Check.due("no private method bears a public name: " + m,
                Modifier.isPrivate(m.getModifiers()) && names.contains(m.getName()), false);
        }
        fieldsAndConstructor(c);
        newObject();
        Check.end();
    }

    private static String told(Method m) {
        StringBuilder told = new StringBuilder(m.getReturnType().getName()).append(' ').append(m.getName()).append('(');
        for (Class<?> p : m.getParameterTypes()) {
            told.append(told.charAt(told.length() - 1) == '(' ? "" : ",").append(p.getName());
        }
        return told.append(')').toString();
    }

    private static void fieldsAndConstructor(Class<?> c) {
        Set<String> open = new TreeSet<>();
        for (Field f : c.getDeclaredFields()) {
            if (!Modifier.isPrivate(f.getModifiers()) && !f.isSynthetic()) {
                open.add(f.getName());
                int mods = f.getModifiers();
                Check.due("constant " + f, Modifier.isPublic(mods) && Modifier.isStatic(mods) && Modifier.isFinal(mods), true);
            }
        }
        Check.due("constants " + open, open.equals(new TreeSet<>(Arrays.asList("NONE", "HIDDEN"))), true);
        Check.due("NONE", StormParting.NONE, -1);
        Check.due("HIDDEN", StormParting.HIDDEN, -100000000);
        Constructor<?>[] made = c.getDeclaredConstructors();
        Check.due("constructors", made.length, 1);
        Check.due("constructor", Modifier.isPublic(made[0].getModifiers()) && made[0].getParameterCount() == 0, true);
        for (Method m : c.getDeclaredMethods()) {
            if (m.getName().equals("word")) {
                Executable e = m;
                Check.due("word throws", e.getExceptionTypes().length == 1
                    && e.getExceptionTypes()[0] == NoSuchElementException.class, true);
            }
        }
    }

    /** Promise 1: nothing is told. */
    private static void newObject() {
        StormParting s = new StormParting();
        for (int what = 0; what < 4; what++) {
            Check.due("new: count(" + what + ")", s.count(what), 0);
        }
        Check.due("new: fault()", s.fault(), 0);
        Check.due("new: cover()", s.cover(), Check.NONE);
        Check.dueWord(s, 0, 0, "NoSuchElementException");
        Check.due("new: may", s.may(0, 1), Check.NONE);
        Check.due("new: paid", s.paid(0, 1), Check.NONE);
        Check.due("new: put", s.put(0, 0), false);
        Check.due("new: judge", s.judge(0), Check.NONE);
        Check.due("new: brings", s.brings(0, 0), Check.HIDDEN);
        Check.due("new: year", s.year(0, 0, false), Check.NONE);
        Check.due("new: most", s.most(0, 0, 0), Check.HIDDEN);
        Check.due("new: net", s.net(0, 0, 0), Check.HIDDEN);
        Check.due("new: ends", s.ends(0, 0, 0), Check.HIDDEN);
        Check.due("new: hangs", s.hangs(0), Check.NONE);
        Check.due("new: told", s.told(0, 0, 0), Check.HIDDEN);
        Check.due("new: layers", s.layers(1, true), Check.HIDDEN);
        Check.due("new: layers own", s.layers(1, false), Check.HIDDEN);
        Check.due("new: nearest", s.nearest(0, 0), Check.HIDDEN);
        Check.due("new: mean", s.mean(0, 2), Check.HIDDEN);
        Check.due("new: game", s.game(0, 0, 0), Check.HIDDEN);
        Check.due("new: mend", s.mend(0, 0, 1), false);
        Check.due("new: storm(1, 1)", s.storm(1, 1), Check.NONE);
        Check.due("new: storm(0, 1)", s.storm(0, 1), 1);
        StormParting other = new StormParting();
        Check.due("another object shares nothing", other.count(2), 0);
    }
}
