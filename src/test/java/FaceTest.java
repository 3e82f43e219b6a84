import java.lang.reflect.Constructor;
import java.lang.reflect.Executable;
import java.lang.reflect.Field;
import java.lang.reflect.Method;
import java.lang.reflect.Modifier;
import java.util.Set;
import java.util.TreeSet;

/** The class's face: its constants, and no member beside the document's that is not private. */
public final class FaceTest {
    private static final String[] DUE = {
        "NONE", "UNKNOWN", "OUTSIDE", "STATE", "FULL", "TableBench()",
        "int leaf(int, int, int)", "int put(int, int, int, long)", "int lose(int)", "int table(int, int)",
        "int where()", "int kind(int)", "int size(int)", "int is(int, int)", "int at(int, int, int)", "int flow(int)",
        "int turn(int, int, int)", "int mix(int, int, int, int)", "int shift(int, int)", "int drop(int, int)",
        "int weave(int, int)", "int line(int, int, int)", "int bound(int)", "int trace(int)", "int poly(int)",
        "int worth(int)", "int ring(int)", "int often(int, int)", "int count(int, int, int, int)",
        "int shut(int, int, int)", "long seen()", "int same(int, int)", "int bend(int)", "int signs(int)",
        "int show(int)", "int form(int, int)", "int walks(int, int)", "int pieces(int)", "int two(int)",
        "int trees(int)", "int results()", "int sign(int)", "int bits(int)", "long word(int, int)", "int finding()",
        "int findings(int)", "int about(int)", "long digest()"
    };

    public static void main(String[] args) {
        Due due = new Due();
        due.part("face");
        due.is("NONE", TableBench.NONE, -1);
        due.is("UNKNOWN", TableBench.UNKNOWN, -101);
        due.is("OUTSIDE", TableBench.OUTSIDE, -102);
        due.is("STATE", TableBench.STATE, -103);
        due.is("FULL", TableBench.FULL, -104);
        due.says("members", members().toString(), new TreeSet<>(Set.of(DUE)).toString());
        due.is("static members, but for the constants", statics(), 0);
        due.end();
    }

    private static String told(Executable one) {
        StringBuilder text = new StringBuilder(one.getName()).append('(');
        for (Class<?> type : one.getParameterTypes()) {
            text.append(text.charAt(text.length() - 1) == '(' ? "" : ", ").append(type.getName());
        }
        return text.append(')').toString();
    }

    private static Set<String> members() {
        Set<String> all = new TreeSet<>();
        for (Field one : TableBench.class.getDeclaredFields()) {
            if (!Modifier.isPrivate(one.getModifiers())) all.add(one.getName());
        }
        for (Constructor<?> one : TableBench.class.getDeclaredConstructors()) all.add(told(one));
        for (Method one : TableBench.class.getDeclaredMethods()) {
            if (!Modifier.isPrivate(one.getModifiers())) all.add(one.getReturnType() + " " + told(one));
        }
        return all;
    }

    private static int statics() {
        int open = 0;
        for (Field one : TableBench.class.getDeclaredFields()) {
            int how = one.getModifiers();
            if (Modifier.isStatic(how) && !(Modifier.isFinal(how) && one.getType() == int.class)) open++;
        }
        return open;
    }
}
