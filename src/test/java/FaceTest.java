import java.lang.reflect.Constructor;
import java.lang.reflect.Field;
import java.lang.reflect.Method;
import java.lang.reflect.Modifier;
import java.util.Arrays;
import java.util.Set;
import java.util.TreeSet;

/** The face of the class, and those rules of the language that can be seen from outside. */
public final class FaceTest {
    private static final String[] CALLS = {
        "begin(int,int):int", "insert(int,long):int", "remove(int):int", "change(int,long):int", "move(int,int):void",
        "undo():int", "commit():int", "draftLines():int", "draftLine(int):long", "versions():int", "lines(int):int",
        "lineOf(int,int):long", "lineAnew(int,int):long", "blame(int,int):int", "since(int,int):int",
        "isAbove(int,int):boolean", "compare(int,int,boolean):int", "pairOf(int):int", "movedTo(int):int",
        "likeness(long,long):int", "treeCost(int,int):int", "base(int,int):int", "merge(int,int,int):int",
        "conflicts():int", "pieceOf(int,int):int", "settle(int,int):int", "patch(int,int,int):int", "turn(int):int",
        "hunk(int,int,int):int", "lay(int,int):int", "note(int,int):int", "noteAt(int,int):int",
        "review(int,int):int", "verdict(int,int,boolean):int", "renew(int,int):int", "land(int):int",
        "reviewState(int):int"};

    private FaceTest() {
    }

    public static void main(String[] args) throws IllegalAccessException {
        calls();
        constants();
        inside();
        Check.end();
    }

    private static String told(Method method) {
        StringBuilder text = new StringBuilder(method.getName()).append('(');
        for (Class<?> type : method.getParameterTypes()) {
            text.append(text.charAt(text.length() - 1) == '(' ? "" : ",").append(type.getName());
        }
        return text.append("):").append(method.getReturnType().getName()).toString();
    }

    private static void calls() {
        Class<DiffWeaver> face = DiffWeaver.class;
        Check.same("public and final", face.getModifiers(), Modifier.PUBLIC | Modifier.FINAL);
        Set<String> found = new TreeSet<>();
        Set<String> names = new TreeSet<>();
        Set<String> hidden = new TreeSet<>();
        for (Method method : face.getDeclaredMethods()) {
            if (Modifier.isPrivate(method.getModifiers())) {
                hidden.add(method.getName());
            } else {
                found.add(told(method));
                names.add(method.getName());
            }
        }
        Check.same("calls", found.toString(), new TreeSet<>(Arrays.asList(CALLS)).toString());
        hidden.retainAll(names);
        Check.same("private ones with a public name", hidden.toString(), "[]");
        for (Constructor<?> maker : face.getDeclaredConstructors()) {
            Check.same("constructor", maker.toString(), "public DiffWeaver()");
        }
    }

    private static void constants() throws IllegalAccessException {
        Set<String> found = new TreeSet<>();
        for (Field field : DiffWeaver.class.getDeclaredFields()) {
            if (!Modifier.isPrivate(field.getModifiers())) {
                found.add(Modifier.toString(field.getModifiers()) + " " + field.getName() + " " + field.get(null));
            }
        }
        Set<String> due = new TreeSet<>();
        for (String each : "NONE -1,FIRST 0,SECOND 1,BASE 2,BOTH 3,TURNED 4,OPEN 0,APPROVED 1,LANDED 2".split(",")) {
            due.add("public static final " + each);
        }
        Check.same("constants", found.toString(), due.toString());
    }

    private static void inside() {
        Class<?>[] inner = DiffWeaver.class.getDeclaredClasses();
        Check.same("at most 12 classes", inner.length < 12, true);
        for (Class<?> each : inner) {
            boolean isOpen = Modifier.isPublic(each.getModifiers()) || Modifier.isProtected(each.getModifiers());
            Check.same(each + " is not seen", isOpen, false);
            Check.same(each + " is static", Modifier.isStatic(each.getModifiers()), true);
            limits(each);
        }
        limits(DiffWeaver.class);
    }

    private static void limits(Class<?> each) {
        int fields = 0;
        for (Field field : each.getDeclaredFields()) {
            boolean isStatic = Modifier.isStatic(field.getModifiers());
            fields += isStatic ? 0 : 1;
            Check.same(field + " is final", isStatic && !Modifier.isFinal(field.getModifiers()), false);
        }
        Check.same(each + " has at most 20 fields", fields <= 20, true);
        for (Method method : each.getDeclaredMethods()) {
            Check.same(method + " takes at most 7", method.getParameterCount() <= 7, true);
        }
    }
}
