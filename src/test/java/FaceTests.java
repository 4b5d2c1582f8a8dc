import java.lang.reflect.Constructor;
import java.lang.reflect.Field;
import java.lang.reflect.Method;
import java.lang.reflect.Modifier;
import java.util.Map;
import java.util.Set;
import java.util.TreeMap;
import java.util.TreeSet;

/** The class shows the document's face and nothing else, and keeps no state that is not its own. */
public final class FaceTests {
    private static int wrong = 0;

    public static void main(String[] args) {
        Bench.watch();
        methods();
        fieldsAndConstructors();
        insideClasses();
        twoObjects();
        sameAnswers();
        room();
        System.out.println(wrong == 0 ? "FaceTests: all is as due" : wrong + " wrong");
        System.exit(wrong == 0 ? 0 : 1);
    }

    private static void due(String what, Object got, Object want) {
        if (!got.equals(want)) {
            wrong++;
            System.out.println(what + ": " + got + ", due is " + want);
        }
    }

    private static Map<String, String> face() {
        Map<String, String> face = new TreeMap<>();
        face.put("feed", "int(int,int,int,int,int) UnsupportedOperationException");
        face.put("end", "void(int) IllegalArgumentException");
        face.put("load", "int()");
        face.put("fault", "int()");
        face.put("run", "int() UnsupportedOperationException");
        face.put("ask", "int() IllegalStateException UnsupportedOperationException");
        face.put("columns", "int()");
        face.put("isNumber", "boolean(int,int) IndexOutOfBoundsException");
        face.put("number", "int(int,int) IndexOutOfBoundsException");
        face.put("letter", "int(int,int,int) IndexOutOfBoundsException");
        face.put("stage", "int() IllegalStateException");
        face.put("stratum", "int()");
        face.put("count", "int(int) IllegalArgumentException");
        return face;
    }

    private static void methods() {
        Map<String, String> face = face();
        Set<String> seen = new TreeSet<>();
        for (Method method : StrataBase.class.getDeclaredMethods()) {
            if (Modifier.isPrivate(method.getModifiers())) {
                due("private " + method.getName() + " bears a public name",
                    face.containsKey(method.getName()), false);
                continue;
            }
            StringBuilder form = new StringBuilder(method.getReturnType().getSimpleName()).append('(');
            for (Class<?> type : method.getParameterTypes()) {
                form.append(form.charAt(form.length() - 1) == '(' ? "" : ",").append(type.getSimpleName());
            }
            form.append(')');
            for (Class<?> type : method.getExceptionTypes()) {
                form.append(' ').append(type.getSimpleName());
            }
            seen.add(method.getName());
            due(method.getName(), form.toString(), String.valueOf(face.get(method.getName())));
            due(method.getName() + " is public", method.getModifiers(), Modifier.PUBLIC);
        }
        due("methods", seen, face.keySet());
    }

    private static void fieldsAndConstructors() {
        for (Field field : StrataBase.class.getDeclaredFields()) {
            boolean open = !Modifier.isPrivate(field.getModifiers());
            due(field.getName() + " is open", open, field.getName().equals("NONE"));
        }
        due("NONE", StrataBase.NONE, -1);
        due("constructors", StrataBase.class.getDeclaredConstructors().length, 1);
        Constructor<?> constructor = StrataBase.class.getDeclaredConstructors()[0];
        due("constructor is public", constructor.getModifiers(), Modifier.PUBLIC);
        due("constructor takes nothing", constructor.getParameterCount(), 0);
        due("class", StrataBase.class.getModifiers(), Modifier.PUBLIC | Modifier.FINAL);
    }

    private static void insideClasses() {
        Class<?>[] inside = StrataBase.class.getDeclaredClasses();
        due("some twelve classes", inside.length <= 12, true);
        Set<String> publicNames = face().keySet();
        for (Class<?> type : inside) {
            due(type + " is static", Modifier.isStatic(type.getModifiers()), true);
            int fields = 0;
            for (Field field : type.getDeclaredFields()) {
                if (Modifier.isStatic(field.getModifiers())) {
                    due(field + " is final", Modifier.isFinal(field.getModifiers()), true);
                } else {
                    fields++;
                }
            }
            due(type + " has some twenty fields", fields <= 20, true);
            for (Method method : type.getDeclaredMethods()) {
                due(method + " bears a public name", publicNames.contains(method.getName()), false);
                due(method + " takes at most seven", method.getParameterCount() <= 7, true);
            }
        }
    }

    private static void twoObjects() {
        StrataBase first = new StrataBase();
        StrataBase second = new StrataBase();
        // "p(a)." and "q(b,c)."
        first.feed(0x70286129, 0x2e000000, 0, 0, 0);
        first.end(5);
        second.feed(0x7128622c, 0x63292e00, 0, 0, 0);
        second.end(7);
        due("first", first.load(), -1);
        due("second", second.load(), -1);
        due("first", first.run(), 1);
        due("first's constants", first.count(2), 1);
        due("second's constants", second.count(2), 2);
        due("second was not run", second.count(4), -1);
    }

    private static void sameAnswers() {
        due("the same calls give the same answers", trace(), trace());
    }

    private static String trace() {
        StrataBase base = new StrataBase();
        StringBuilder out = new StringBuilder();
        int word = 0x70286129;
        for (int i = 0; i < 200; i++) {
            out.append(base.feed(word, 0x2e202020, 0x20202020, 0x20202020, 0x20202020)).append(' ');
            if (i % 3 == 0) {
                out.append(base.load()).append(' ').append(base.fault()).append(' ');
                out.append(base.run()).append(' ').append(base.count(6)).append(' ');
            }
            word += 0x00000100 << i % 5;
        }
        return out.toString();
    }

    /** What an object keeps when it has been filled to the document's limits fits a run's room. */
    private static void room() {
        StrataBase base = new StrataBase();
        put(base, Bench.facts("n", 100) + "d(X,Y):-n(X),n(Y).f(X,Y):-n(X),n(Y),X!=Y.");
        due("load", base.load(), -1);
        due("run", base.run(), 20000);
        put(base, "d(X,Y),f(Y,Z),f(Z,X),X<Y,Y<3");
        due("ask", base.ask(), 3 * 98);
        long[] kept = elements(base);
        due("objects and arrays are below 600000", kept[0] < 600000, true);
        due("fields and elements are below 7300000", kept[1] < 7300000, true);
    }

    private static void put(StrataBase base, String text) {
        for (int at = 0; at < text.length(); at += 20) {
            base.feed(Bench.wordAt(text, at), Bench.wordAt(text, at + 4), Bench.wordAt(text, at + 8),
                Bench.wordAt(text, at + 12), Bench.wordAt(text, at + 16));
        }
        base.end(text.length());
    }

    private static long[] elements(Object object) {
        Set<Object> seen = java.util.Collections.newSetFromMap(new java.util.IdentityHashMap<>());
        java.util.ArrayDeque<Object> left = new java.util.ArrayDeque<>();
        left.add(object);
        long sum = 0;
        while (!left.isEmpty()) {
            Object next = left.poll();
            if (!seen.add(next)) {
                continue;
            }
            if (next.getClass().isArray()) {
                int length = java.lang.reflect.Array.getLength(next);
                sum += length;
                for (int i = 0; next instanceof Object[] && i < length; i++) {
                    if (((Object[]) next)[i] != null) {
                        left.add(((Object[]) next)[i]);
                    }
                }
                continue;
            }
            for (Field field : next.getClass().getDeclaredFields()) {
                if (!Modifier.isStatic(field.getModifiers())) {
                    sum++;
                    field.setAccessible(true);
                    Object value = valueOf(field, next);
                    if (value != null && !field.getType().isPrimitive()) {
                        left.add(value);
                    }
                }
            }
        }
        return new long[] {seen.size(), sum};
    }

    private static Object valueOf(Field field, Object object) {
        try {
            return field.get(object);
        } catch (IllegalAccessException e) {
            throw new IllegalStateException(e);
        }
    }
}
