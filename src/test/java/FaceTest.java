import java.lang.reflect.Constructor;
import java.lang.reflect.Field;
import java.lang.reflect.Method;
import java.lang.reflect.Modifier;
import java.util.ArrayList;
import java.util.HashSet;
import java.util.List;
import java.util.Set;

/** The class has the document's face and nothing else that can be seen from outside. */
public final class FaceTest {
    private static final String[] METHODS = {
        "int items(int)", "int right(int,int)", "int model(int,int)", "int part(int,int,int)", "int candidate()",
        "int gives(int,int,int)", "int seat(int,int,int)", "int feed(int)", "int read()", "int use(int,int)",
        "int answer(int,int)", "int of(int,int)", "int itemOf(int,int)", "int taken(int,int)",
        "int share(int,int,int,int)", "int alike(int,int)", "long odds(int,int,int,int)",
        "long just(int,int,int,int,int)", "int source(int,int)", "long without(int,int,int,int)", "int key(int,int)",
        "int pairs(int,int)", "int pair(int,int)", "long pairOdds(int,int)", "int rank(int,int)", "int linked(int)",
        "int chain(int)", "int group(int)", "long seated(int,int)", "int drawn(int,int,int)",
        "long chance(int,int,int,int,int)", "int see(int,int,boolean)", "int fits(int)", "long mean(int)",
        "int plan(int,int,int)", "int ends()", "int judge(int,int,int)", "int image()", "int undo()",
        "int count(int)", "int tape(int,int,int)", "int item(int,int,long)", "long peek(int,int)",
        "int shift(int,int,int,int,int)"
    };

    public static void main(String[] args) {
        Due due = new Due("FaceTest");
        int shape = CopyBench.class.getModifiers();
        due.holds("a public final class", Modifier.isPublic(shape) && Modifier.isFinal(shape));
        constants(due);
        constructors(due);
        methods(due);
        inside(due);
        due.end();
    }

    private static void constants(Due due) {
        due.is("NONE", CopyBench.NONE, -1);
        due.is("BAD", CopyBench.BAD, -2);
        due.is("STATE", CopyBench.STATE, -3);
        due.is("FULL", CopyBench.FULL, -4);
        due.is("NO", CopyBench.NO, Long.MIN_VALUE);
        Set<String> seen = new HashSet<>();
        for (Field field : CopyBench.class.getDeclaredFields()) {
            if (!Modifier.isPrivate(field.getModifiers())) {
                seen.add(field.getName());
            }
        }
        due.holds("no other constants", seen.equals(Set.of("NONE", "BAD", "STATE", "FULL", "NO")));
    }

    private static void constructors(Due due) {
        Constructor<?>[] all = CopyBench.class.getDeclaredConstructors();
        due.is("constructors", all.length, 1);
        due.holds("the constructor is public", Modifier.isPublic(all[0].getModifiers()));
        due.is("its parameters", all[0].getParameterCount(), 0);
    }

    private static void methods(Due due) {
        List<String> open = new ArrayList<>();
        Set<String> names = new HashSet<>();
        for (Method method : CopyBench.class.getDeclaredMethods()) {
            if (!Modifier.isPrivate(method.getModifiers())) {
                open.add(told(method));
                names.add(method.getName());
                due.holds(method + " is public", Modifier.isPublic(method.getModifiers()));
            }
        }
        for (String method : METHODS) {
            due.holds(method, open.remove(method));
        }
        due.holds("no other methods: " + open, open.isEmpty());
        hiddenNames(due, CopyBench.class, names);
        for (Class<?> kind : CopyBench.class.getDeclaredClasses()) {
            hiddenNames(due, kind, names);
        }
    }

    private static void hiddenNames(Due due, Class<?> kind, Set<String> names) {
        for (Method method : kind.getDeclaredMethods()) {
            if (Modifier.isPrivate(method.getModifiers()) || kind != CopyBench.class) {
                due.holds(method + " has a name of its own", !names.contains(method.getName()));
            }
        }
    }

    private static void inside(Due due) {
        for (Class<?> kind : CopyBench.class.getDeclaredClasses()) {
            int shape = kind.getModifiers();
            due.holds(kind + " is static", Modifier.isStatic(shape));
            due.holds(kind + " is hidden", !Modifier.isPublic(shape) && !Modifier.isProtected(shape));
        }
        due.holds("twelve classes at most", CopyBench.class.getDeclaredClasses().length < 12);
    }

    private static String told(Method method) {
        StringBuilder text = new StringBuilder();
        text.append(method.getReturnType().getName()).append(' ').append(method.getName()).append('(');
        String comma = "";
        for (Class<?> type : method.getParameterTypes()) {
            text.append(comma).append(type.getName());
            comma = ",";
        }
        return text.append(')').toString();
    }
}
