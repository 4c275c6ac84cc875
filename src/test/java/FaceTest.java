import java.lang.reflect.Constructor;
import java.lang.reflect.Field;
import java.lang.reflect.Method;
import java.lang.reflect.Modifier;
import java.util.Arrays;
import java.util.List;
import java.util.TreeSet;

/** The public face and promise 1. */
public final class FaceTest {
    private static final Expect expect = new Expect();

    public static void main(String[] args) {
        constants();
        nothingButTheFace();
        aNewObject();
        expect.end();
    }

    private static void constants() {
        expect.sentence("The constants");
        expect.due("BAD", TamedClassSet.BAD, -1);
        expect.due("FULL", TamedClassSet.FULL, -2);
        expect.due("SEALED", TamedClassSet.SEALED, -3);
        expect.due("NULL", TamedClassSet.NULL, 1L << 32);
        expect.due("OBJECT", TamedClassSet.OBJECT, 1L << 33);
        expect.due("FAULT", TamedClassSet.FAULT, 1L << 34);
        expect.due("UNHELD", TamedClassSet.UNHELD, 1L << 35);
        expect.due("REFUSED", TamedClassSet.REFUSED, 1L << 36);
    }

    private static void nothingButTheFace() {
        expect.sentence("The public face");
        Class<?> face = TamedClassSet.class;
        expect.holds("public and final", Modifier.isPublic(face.getModifiers()) && Modifier.isFinal(face.getModifiers()));
        TreeSet<String> visible = new TreeSet<>();
        for (Field f : face.getDeclaredFields()) {
            if (!Modifier.isPrivate(f.getModifiers())) visible.add(f.getType() + " " + f.getName());
            expect.holds("a static field is final: " + f, !Modifier.isStatic(f.getModifiers()) || Modifier.isFinal(f.getModifiers()));
        }
        for (Method m : face.getDeclaredMethods()) {
            if (Modifier.isPrivate(m.getModifiers()) || m.isSynthetic()) continue;
            expect.holds("public: " + m, Modifier.isPublic(m.getModifiers()));
            visible.add(m.getReturnType() + " " + m.getName() + Arrays.toString(m.getParameterTypes()));
        }
        for (Constructor<?> c : face.getDeclaredConstructors()) visible.add("new" + Arrays.toString(c.getParameterTypes()));
        List<String> due = List.of("int BAD", "int FULL", "int SEALED", "long NULL", "long OBJECT", "long FAULT", "long UNHELD",
                "long REFUSED", "new[]", "int addClass[int, int]", "int addField[int, int, int]",
                "int addMethod[int, int, int, int, int]", "int emit[int, int, int]", "int check[]", "void clear[]",
                "int typesAt[int, int]", "long run[int, int, int]", "long look[int, int]", "int held[int]", "int runs[]",
                "int steps[]");
        expect.holds("the face is " + visible, visible.equals(new TreeSet<>(due)));
    }

    private static void aNewObject() {
        expect.sentence("1: No classes, fields, methods or handles; not sealed.");
        TamedClassSet x = new TamedClassSet();
        expect.due("runs()", x.runs(), 0);
        expect.due("steps()", x.steps(), TamedClassSet.BAD);
        for (int h = -1; h <= 16; h++) {
            expect.due("held(" + h + ")", x.held(h), TamedClassSet.BAD);
            expect.due("look(" + h + ", 0)", x.look(h, 0), TamedClassSet.REFUSED);
        }
        expect.due("typesAt(0, 0)", x.typesAt(0, 0), TamedClassSet.BAD);
        expect.due("run(0, 0, 0)", x.run(0, 0, 0), TamedClassSet.REFUSED);
        expect.due("no class: addClass(0, 0)", x.addClass(0, 0), TamedClassSet.BAD);
        expect.due("no class: addField(0, 0, 0)", x.addField(0, 0, 0), TamedClassSet.BAD);
        expect.due("no class: addMethod(0, 0, 0, 0, 0)", x.addMethod(0, 0, 0, 0, 0), TamedClassSet.BAD);
        expect.due("no method: emit(0, 0, 0)", x.emit(0, 0, 0), TamedClassSet.BAD);
        expect.due("not sealed: addClass(-1, 0)", x.addClass(-1, 0), 0);
        expect.due("not sealed: addField(0, 0, 0)", x.addField(0, 0, 0), 0);
        expect.due("not sealed: addMethod(0, 0, 0, 0, 0)", x.addMethod(0, 0, 0, 0, 0), 0);
        TamedClassSet other = new TamedClassSet();
        expect.due("another object shares nothing: addField(0, 0, 0)", other.addField(0, 0, 0), TamedClassSet.BAD);
    }
}
