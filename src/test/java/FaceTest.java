import java.io.IOException;
import java.lang.reflect.Constructor;
import java.lang.reflect.Field;
import java.lang.reflect.Method;
import java.lang.reflect.Modifier;
import java.nio.file.Files;
import java.nio.file.Path;
import java.util.Set;
import java.util.TreeSet;
import java.util.regex.Pattern;

/** The public face is the document's and nothing else; the file keeps to what a text search can see of LANGUAGE.md. */
public final class FaceTest {
    private static final Due due = new Due("FaceTest");

    private static final String[] METHODS = {
        "int write(int,long)", "int wipe()", "int fault()", "int lay()", "int person(int,int)", "int law(int,int)",
        "int lines(int)", "int served(int)", "long pairs(int)", "int bell(int,int)", "int best(int,int)",
        "int round(int,int,int)", "int of(int,int,int)", "int means(int,int,int)", "int rules(int,int)",
        "int shout(int,int)", "int known(int)", "int least(int)", "int laws(int)",
        "int two(int,int,int)", "int keep()", "int back()", "int count(int)"};

    private static final String[] FORBIDDEN = {
        "\\bthrow\\b", "\\btry\\b", "\\bcatch\\b", "\\bassert\\b", "\\bsynchronized\\b", "->", "::", "\\bimport\\b",
        "\\bpackage\\b", "static \\{", "\\bequals\\(", "hashCode", "toString", "Exact\\b", "\\bprotected\\b"};

    public static void main(String[] args) throws IOException {
        Class<?> face = ShoutedPrices.class;
        due.is("public final", face.getModifiers(), Modifier.PUBLIC | Modifier.FINAL);
        methods(face);
        members(face);
        constant("BAD", ShoutedPrices.BAD, -1);
        constant("NO", ShoutedPrices.NO, -2);
        constant("FULL", ShoutedPrices.FULL, -3);
        constant("NONE", ShoutedPrices.NONE, -4);
        source(Files.readString(Path.of("src/main/java/ShoutedPrices.java")));
        due.end();
    }

    private static void methods(Class<?> face) {
        Set<String> left = new TreeSet<>(Set.of(METHODS));
        Set<String> names = new TreeSet<>();
        for (Method m : face.getDeclaredMethods()) {
            if (Modifier.isPrivate(m.getModifiers()) || m.isSynthetic()) {
                continue;
            }
            StringBuilder told = new StringBuilder(m.getReturnType().getName()).append(' ').append(m.getName()).append('(');
            for (int i = 0; i < m.getParameterCount(); i++) {
                told.append(i > 0 ? "," : "").append(m.getParameterTypes()[i].getName());
            }
            boolean asked = left.remove(told.append(')').toString());
            due.is(told + " is of the face", asked ? 1 : 0, 1);
            due.is(told + " is public alone", m.getModifiers(), Modifier.PUBLIC);
            names.add(m.getName());
        }
        due.is("methods that lack: " + left, left.size(), 0);
        due.is("names", names.size(), METHODS.length);
        hidden(face, names);
        for (Class<?> inner : face.getDeclaredClasses()) {
            due.is(inner.getName() + " is static", Modifier.isStatic(inner.getModifiers()) ? 1 : 0, 1);
            due.is(inner.getName() + " is public", Modifier.isPublic(inner.getModifiers()) ? 1 : 0, 0);
            hidden(inner, names);
        }
    }

    private static void hidden(Class<?> where, Set<String> names) {
        for (Method m : where.getDeclaredMethods()) {
            if (!Modifier.isPublic(m.getModifiers())) {
                due.is(where.getName() + "." + m.getName() + " bears a public name", names.contains(m.getName()) ? 1 : 0, 0);
            }
            due.is(m.getName() + " takes seven at most", m.getParameterCount() <= 7 ? 1 : 0, 1);
        }
    }

    private static void members(Class<?> face) {
        int constants = 0;
        for (Field f : face.getDeclaredFields()) {
            int is = f.getModifiers();
            if (!Modifier.isPrivate(is)) {
                constants++;
                due.is(f.getName(), is, Modifier.PUBLIC | Modifier.STATIC | Modifier.FINAL);
            }
            if (Modifier.isStatic(is)) {
                due.is(f.getName() + " is final", Modifier.isFinal(is) ? 1 : 0, 1);
            }
        }
        due.is("constants", constants, 4);
        Constructor<?>[] made = face.getDeclaredConstructors();
        due.is("constructors", made.length, 1);
        due.is("its numbers", made[0].getParameterCount(), 0);
        due.is("constructor is public", made[0].getModifiers(), Modifier.PUBLIC);
    }

    private static void constant(String name, int got, int want) {
        due.is(name, got, want);
    }

    private static void source(String text) {
        for (String word : FORBIDDEN) {
            due.is("the file holds " + word, Pattern.compile(word).matcher(text).find() ? 1 : 0, 0);
        }
    }
}
