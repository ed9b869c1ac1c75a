import java.lang.reflect.Constructor;
import java.lang.reflect.Field;
import java.lang.reflect.Method;
import java.lang.reflect.Modifier;
import java.util.Arrays;
import java.util.HashSet;
import java.util.Set;
import java.util.TreeSet;

/** The public face of the document, and what LANGUAGE.md says of the class's members. */
public final class FaceTest {
    private static final Due due = new Due("FaceTest");
    private static final String FACE = "int book(int) int weigh(int,int,int) int close(int) "
        + "int copy(int,int,int,int,int) int mean(int) int sheet(int,int) int lay(int,int,int) int tear(int) "
        + "int table(int) int rule(int,int,int) int drop(int) int told(int,int) int mark(int,int) "
        + "int order(int,int) int shop(int,int,boolean) int costs(int,int,int,int) int cost(int,int,int,int) "
        + "int service(int,int,int,int,int) int best(int,int,int) int bestPair(int,int,int) int pairTold(int) "
        + "int spoilt(int,int,int,int,boolean) int see(int) int forget() int doubt(int,int,int,int) "
        + "long upper() long lower() int count(int) int finding() int findings(int) long digest()";

    public static void main(String[] args) throws ReflectiveOperationException {
        methods();
        constants();
        members();
        due.end();
    }

    private static String typed(Method m) {
        StringBuilder text = new StringBuilder(m.getReturnType().getName()).append(' ').append(m.getName()).append('(');
        for (int i = 0; i < m.getParameterCount(); i++) {
            text.append(i == 0 ? "" : ",").append(m.getParameterTypes()[i].getName());
        }
        return text.append(')').toString();
    }

    private static void methods() {
        Set<String> want = new TreeSet<>(Arrays.asList(FACE.replaceAll("\\) ", ")\n").split("\n")));
        Set<String> got = new TreeSet<>();
        for (Method m : SendForMore.class.getDeclaredMethods()) {
            if (Modifier.isPublic(m.getModifiers())) {
                got.add(typed(m));
                due.isTrue(m + " is no static one", !Modifier.isStatic(m.getModifiers()));
            }
        }
        due.isTrue("the public methods are " + want + ", not " + got, got.equals(want));
    }

    private static void constants() throws ReflectiveOperationException {
        String[] names = {"BAD", "FULL", "FINDING", "STATE", "NONE"};
        int[] values = {-1, -2, -3, -4, -9};
        for (int i = 0; i < names.length; i++) {
            Field f = SendForMore.class.getField(names[i]);
            due.is(names[i], f.getInt(null), values[i]);
            due.isTrue(names[i] + " is final", Modifier.isFinal(f.getModifiers()));
        }
        due.is("public fields", SendForMore.class.getFields().length, names.length);
    }

    private static void members() {
        due.isTrue("the class is final", Modifier.isFinal(SendForMore.class.getModifiers()));
        Set<String> open = new HashSet<>();
        Set<String> hidden = new HashSet<>();
        for (Method m : SendForMore.class.getDeclaredMethods()) {
            (Modifier.isPublic(m.getModifiers()) ? open : hidden).add(m.getName());
            due.isTrue(m + " is public or private", (m.getModifiers() & (Modifier.PUBLIC | Modifier.PRIVATE)) != 0);
            due.isTrue(m + " takes at most seven", m.getParameterCount() <= 7);
        }
        hidden.retainAll(open);
        due.isTrue("private names that are public ones: " + hidden, hidden.isEmpty());
        for (Field f : SendForMore.class.getDeclaredFields()) {
            due.isTrue(f + " is public or private", (f.getModifiers() & (Modifier.PUBLIC | Modifier.PRIVATE)) != 0);
        }
        for (Constructor<?> c : SendForMore.class.getDeclaredConstructors()) {
            due.isTrue(c + " is public and takes nothing", Modifier.isPublic(c.getModifiers()) && c.getParameterCount() == 0);
        }
        for (Class<?> inside : SendForMore.class.getDeclaredClasses()) {
            due.isTrue(inside + " is static", Modifier.isStatic(inside.getModifiers()));
            due.isTrue(inside + " isn't public", !Modifier.isPublic(inside.getModifiers()));
        }
        due.isTrue("at most twelve classes", SendForMore.class.getDeclaredClasses().length < 12);
    }
}
