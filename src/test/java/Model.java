import java.util.ArrayList;
import java.util.HashSet;
import java.util.IdentityHashMap;
import java.util.List;
import java.util.Map;
import java.util.Set;

/**
 * The document told a second time, in another way: objects with identity, lists of types, a search over
 * all ways, recursion and exceptions. It is compared with the class on calls drawn at random.
 */
final class Model {
    private static final int BAD = -1, FULL = -2, SEALED = -3;
    private static final long NULL = 1L << 32, OBJECT = 1L << 33, FAULT = 1L << 34, UNHELD = 1L << 35, REFUSED = 1L << 36;

    private record Cls(int number, Cls parent, int marks) {
        List<Cls> line() {
            List<Cls> line = new ArrayList<>();
            for (Cls c = this; c != null; c = c.parent) line.add(c);
            return line;
        }

        boolean under(Cls other) {
            return line().contains(other);
        }

        boolean immutable() {
            return line().stream().anyMatch(c -> c.marks != 0);
        }

        boolean powerless() {
            return line().stream().anyMatch(c -> c.marks >= 2);
        }
    }

    private record Fld(int number, Cls cls, boolean isStatic, boolean isFinal, int type) { }

    private record Ins(int op, int a) { }

    private record Mth(int number, Cls cls, boolean isStatic, int name, int param, int result, List<Ins> code) { }

    /** What stands before an instruction: the types on the stack and in the locals, null where unset. */
    private record Shape(List<Integer> stack, List<Integer> locals) { }

    private static final class Unfit extends RuntimeException {
        private static final long serialVersionUID = 1;
    }

    private static final class Fault extends RuntimeException {
        private static final long serialVersionUID = 1;
        final int number;

        Fault(int number) {
            this.number = number;
        }
    }

    private static final class Thing {
        Cls cls;
        int held;
        final Map<Fld, Object> values = new IdentityHashMap<>();
    }

    private List<Cls> classes = new ArrayList<>();
    private List<Fld> fields = new ArrayList<>();
    private List<Mth> methods = new ArrayList<>();
    private List<Thing> handles = new ArrayList<>();
    private List<List<Shape>> shapes = new ArrayList<>();
    private boolean sealed;
    private int runs;
    private int steps = BAD;
    private int made;

    int addClass(int parent, int marks) {
        if (sealed) return SEALED;
        if (parent < -1 || parent >= classes.size() || marks < 0 || marks > 3) return BAD;
        if (classes.size() == 8) return FULL;
        classes.add(new Cls(classes.size(), parent < 0 ? null : classes.get(parent), marks));
        return classes.size() - 1;
    }

    private boolean noType(int type) {
        return type < 0 || type > classes.size() + 1;
    }

    private static boolean in(int number, List<?> list) {
        return number >= 0 && number < list.size();
    }

    int addField(int cls, int how, int type) {
        if (sealed) return SEALED;
        if (!in(cls, classes) || how < 0 || how > 3 || noType(type)) return BAD;
        if (fields.size() == 12) return FULL;
        fields.add(new Fld(fields.size(), classes.get(cls), how == 1 || how == 3, how >= 2, type));
        return fields.size() - 1;
    }

    int addMethod(int cls, int how, int name, int param, int result) {
        if (sealed) return SEALED;
        if (!in(cls, classes) || how < 0 || how > 1 || name < 0 || name > 7) return BAD;
        if (param != -1 && noType(param) || noType(result)) return BAD;
        for (Mth m : methods) if (m.cls.number == cls && m.name == name) return BAD;
        if (methods.size() == 8) return FULL;
        methods.add(new Mth(methods.size(), classes.get(cls), how == 1, name, param, result, new ArrayList<>()));
        return methods.size() - 1;
    }

    int emit(int method, int op, int a) {
        if (sealed) return SEALED;
        if (!in(method, methods) || op < 0 || op > 19) return BAD;
        List<Ins> code = methods.get(method).code;
        if (code.size() == 12) return FULL;
        code.add(new Ins(op, a));
        return code.size() - 1;
    }

    void clear() {
        classes = new ArrayList<>();
        fields = new ArrayList<>();
        methods = new ArrayList<>();
        handles = new ArrayList<>();
        shapes = new ArrayList<>();
        sealed = false;
    }

    private boolean immutable(int type) {
        return type == 0 || type >= 2 && classes.get(type - 2).immutable();
    }

    private boolean powerless(int type) {
        return type == 0 || type >= 2 && classes.get(type - 2).powerless();
    }

    private boolean fits(int s, int t) {
        return s == t || s >= 2 && t >= 2 && classes.get(s - 2).under(classes.get(t - 2));
    }

    private List<Fld> own(Cls c) {
        return fields.stream().filter(f -> !f.isStatic && c.under(f.cls)).toList();
    }

    int check() {
        if (sealed) return 0;
        for (Fld f : fields) if (f.isStatic && !(f.isFinal && powerless(f.type))) return 1000 + f.number;
        Set<Integer> spoilt = new HashSet<>();
        for (Cls c : classes) {
            for (Fld f : own(c)) {
                boolean good = !c.immutable() || f.isFinal && immutable(f.type) && (!c.powerless() || powerless(f.type));
                if (!good) spoilt.add(f.number);
            }
        }
        if (!spoilt.isEmpty()) return 2000 + spoilt.stream().min(Integer::compare).get();
        for (Mth n : methods) {
            for (Cls c : n.cls.line()) {
                for (Mth m : methods) {
                    if (c == n.cls || m.cls != c || m.name != n.name) continue;
                    if (n.isStatic || m.isStatic || m.param != n.param || m.result != n.result) return 3000 + n.number;
                }
            }
        }
        shapes = new ArrayList<>();
        for (Mth m : methods) {
            try {
                shapes.add(shapesOf(m));
            } catch (Unfit u) {
                return 4000 + m.number;
            }
        }
        for (int rule = 5; rule <= 7; rule++) {
            for (Mth m : methods) {
                for (int i = 0; i < m.code.size(); i++) if (breaks(rule, m, i)) return 1000 * rule + 16 * m.number + i;
            }
        }
        sealed = true;
        return 0;
    }

    private boolean breaks(int rule, Mth m, int i) {
        Ins ins = m.code.get(i);
        if (rule == 5) return ins.op == 18 && ins.a >= 2;
        if (rule == 6) return (ins.op == 9 || ins.op == 11) && fields.get(ins.a).isFinal;
        List<Integer> stack = shapes.get(m.number).get(i).stack;
        return ins.op == 16 && (immutable(stack.get(stack.size() - 1)) || immutable(stack.get(stack.size() - 2)));
    }

    private static void want(boolean holds) {
        if (!holds) throw new Unfit();
    }

    private Shape start(Mth m) {
        List<Integer> locals = new ArrayList<>();
        if (!m.isStatic) locals.add(2 + m.cls.number);
        if (m.param != -1) locals.add(m.param);
        while (locals.size() < 3) locals.add(null);
        return new Shape(List.of(), locals);
    }

    private List<Shape> shapesOf(Mth m) {
        want(!m.code.isEmpty());
        List<Shape> found = new ArrayList<>();
        for (int i = 0; i < m.code.size(); i++) found.add(null);
        follow(m, 0, start(m), found);
        for (Shape s : found) want(s != null);
        return found;
    }

    private void follow(Mth m, int i, Shape shape, List<Shape> found) {
        want(in(i, m.code));
        if (found.get(i) != null) {
            want(found.get(i).equals(shape));
            return;
        }
        found.set(i, shape);
        Ins ins = m.code.get(i);
        Shape after = after(m, ins, shape);
        if (ins.op == 19) return;
        if (ins.op == 5 || ins.op == 6) follow(m, ins.a, after, found);
        if (ins.op != 5) follow(m, i + 1, after, found);
    }

    private int pop(List<Integer> stack) {
        want(!stack.isEmpty());
        return stack.remove(stack.size() - 1);
    }

    private Shape after(Mth m, Ins ins, Shape before) {
        List<Integer> stack = new ArrayList<>(before.stack);
        List<Integer> locals = new ArrayList<>(before.locals);
        List<Integer> wanted = wanted(m, ins);
        for (int k = wanted.size() - 1; k >= 0; k--) want(fits(pop(stack), wanted.get(k)));
        if (ins.op == 16) for (int k = 0; k < 2; k++) want(pop(stack) != 0);
        if (ins.op == 1) want(ins.a >= 0 && ins.a < 3 && locals.get(ins.a) != null);
        if (ins.op == 1) stack.add(locals.get(ins.a));
        if (ins.op == 2) {
            want(ins.a >= 0 && ins.a < 3);
            locals.set(ins.a, pop(stack));
        }
        int given = given(ins);
        if (given != -1) stack.add(given);
        want(stack.size() <= 4);
        return new Shape(stack, locals);
    }

    /** The types that an instruction takes, but for SAME and STORE, which take others. */
    private List<Integer> wanted(Mth m, Ins ins) {
        List<Integer> wanted = new ArrayList<>();
        switch (ins.op) {
            case 3, 4 -> wanted.addAll(List.of(0, 0));
            case 6, 13 -> wanted.add(0);
            case 14 -> wanted.add(1);
            case 15 -> wanted.addAll(List.of(1, 0));
            case 18 -> {
                want(ins.a >= 0 && ins.a <= 3);
                wanted.add(0);
            }
            case 19 -> wanted.add(m.result);
            case 7 -> {
                want(in(ins.a, classes));
                for (Fld f : own(classes.get(ins.a))) wanted.add(f.type);
            }
            case 8, 9 -> {
                want(in(ins.a, fields) && !fields.get(ins.a).isStatic);
                wanted.add(2 + fields.get(ins.a).cls.number);
                if (ins.op == 9) wanted.add(fields.get(ins.a).type);
            }
            case 10, 11 -> {
                want(in(ins.a, fields) && fields.get(ins.a).isStatic);
                if (ins.op == 11) wanted.add(fields.get(ins.a).type);
            }
            case 12 -> {
                want(in(ins.a, methods));
                Mth called = methods.get(ins.a);
                if (!called.isStatic) wanted.add(2 + called.cls.number);
                if (called.param != -1) wanted.add(called.param);
            }
            case 17 -> want(in(ins.a, classes));
            default -> { }
        }
        return wanted;
    }

    private int given(Ins ins) {
        return switch (ins.op) {
            case 0, 3, 4, 14, 16, 18 -> 0;
            case 7, 17 -> 2 + ins.a;
            case 8, 10 -> fields.get(ins.a).type;
            case 12 -> methods.get(ins.a).result;
            case 13 -> 1;
            default -> -1;
        };
    }

    int typesAt(int method, int instruction) {
        if (!sealed || !in(method, methods) || !in(instruction, methods.get(method).code)) return BAD;
        Shape shape = shapes.get(method).get(instruction);
        int sum = 0;
        int unit = 1;
        for (int type : shape.stack) {
            sum += (type + 1) * unit;
            unit *= 16;
        }
        unit = 65536;
        for (Integer type : shape.locals) {
            sum += type == null ? 0 : (type + 1) * unit;
            unit *= 16;
        }
        return sum;
    }

    private int typeOf(Thing thing) {
        return thing.cls == null ? 1 : 2 + thing.cls.number;
    }

    long run(int method, int receiver, int argument) {
        if (!sealed || runs == 40 || !in(method, methods)) return REFUSED;
        Mth m = methods.get(method);
        List<Object> given = new ArrayList<>();
        if (!m.isStatic) {
            if (!in(receiver, handles) || !fits(typeOf(handles.get(receiver)), 2 + m.cls.number)) return REFUSED;
            given.add(handles.get(receiver));
        }
        if (m.param == 0) given.add(argument);
        if (m.param > 0) {
            boolean good = argument == -1 || in(argument, handles) && fits(typeOf(handles.get(argument)), m.param);
            if (!good) return REFUSED;
            given.add(argument == -1 ? null : handles.get(argument));
        }
        runs++;
        steps = 0;
        made = 0;
        try {
            Object result = perform(m, given, 1);
            if (result instanceof Thing t && !handles.contains(t) && handles.size() < 16) handles.add(t);
            return answer(result);
        } catch (Fault f) {
            return FAULT + f.number;
        }
    }

    private long answer(Object value) {
        if (value instanceof Integer i) return i;
        if (value == null) return NULL;
        int handle = handles.indexOf((Thing) value);
        return handle < 0 ? UNHELD : OBJECT + handle;
    }

    private Mth chosen(Mth m, Thing receiver) {
        for (Cls c : receiver.cls.line()) {
            for (Mth other : methods) if (other.cls == c && other.name == m.name) return other;
        }
        throw new IllegalStateException();
    }

    private Object perform(Mth told, List<Object> given, int depth) {
        Mth m = told.isStatic ? told : chosen(told, (Thing) given.get(0));
        Object[] locals = new Object[3];
        for (int k = 0; k < given.size(); k++) locals[k] = given.get(k);
        ArrayList<Object> stack = new ArrayList<>();
        int next = 0;
        while (true) {
            if (steps == 64) throw new Fault(2);
            steps++;
            Ins ins = m.code.get(next++);
            if (ins.op == 19) return pull(stack);
            if (ins.op == 5) next = ins.a;
            else if (ins.op == 6) next = (int) pull(stack) == 0 ? ins.a : next;
            else if (ins.op == 1) stack.add(locals[ins.a]);
            else if (ins.op == 2) locals[ins.a] = pull(stack);
            else if (ins.op == 12) callOut(ins, stack, depth);
            else if (ins.op >= 7 && ins.op <= 15) onThings(ins, stack);
            else onValues(ins, stack);
        }
    }

    private static Object pull(ArrayList<Object> stack) {
        return stack.remove(stack.size() - 1);
    }

    private static Thing alive(Object thing) {
        if (thing == null) throw new Fault(1);
        return (Thing) thing;
    }

    private Thing fresh() {
        if (made == 8) throw new Fault(4);
        made++;
        return new Thing();
    }

    private void callOut(Ins ins, ArrayList<Object> stack, int depth) {
        Mth called = methods.get(ins.a);
        List<Object> given = new ArrayList<>();
        if (called.param != -1) given.add(pull(stack));
        if (!called.isStatic) given.add(0, alive(pull(stack)));
        if (depth == 6) throw new Fault(3);
        stack.add(perform(called, given, depth + 1));
    }

    private void onThings(Ins ins, ArrayList<Object> stack) {
        Object top = ins.op == 9 || ins.op == 15 ? pull(stack) : null;
        switch (ins.op) {
            case 7 -> {
                Thing thing = fresh();
                thing.cls = classes.get(ins.a);
                List<Fld> own = new ArrayList<>(own(thing.cls));
                for (int k = own.size() - 1; k >= 0; k--) thing.values.put(own.get(k), pull(stack));
                stack.add(thing);
            }
            case 8 -> stack.add(alive(pull(stack)).values.get(fields.get(ins.a)));
            case 9 -> alive(pull(stack)).values.put(fields.get(ins.a), top);
            case 10 -> stack.add(fields.get(ins.a).type == 0 ? (Object) 0 : null);
            case 13 -> {
                Thing cell = fresh();
                cell.held = (int) pull(stack);
                stack.add(cell);
            }
            case 14 -> stack.add(alive(pull(stack)).held);
            case 15 -> alive(pull(stack)).held = (int) top;
            default -> throw new IllegalStateException();
        }
    }

    private void onValues(Ins ins, ArrayList<Object> stack) {
        switch (ins.op) {
            case 0 -> stack.add(ins.a);
            case 3 -> stack.add((int) pull(stack) + (int) pull(stack));
            case 4 -> stack.add(-(int) pull(stack) + (int) pull(stack));
            case 16 -> stack.add(pull(stack) == pull(stack) ? 1 : 0);
            case 17 -> stack.add(null);
            case 18 -> {
                int x = (int) pull(stack);
                stack.add(ins.a == 0 ? (x < 0 ? -x : x) : Integer.toBinaryString(x).replace("0", "").length());
            }
            default -> throw new IllegalStateException();
        }
    }

    long look(int handle, int field) {
        if (!in(handle, handles)) return REFUSED;
        Thing thing = handles.get(handle);
        if (thing.cls == null) return thing.held;
        if (!in(field, fields) || !own(thing.cls).contains(fields.get(field))) return REFUSED;
        return answer(thing.values.get(fields.get(field)));
    }

    int held(int handle) {
        return in(handle, handles) ? typeOf(handles.get(handle)) : BAD;
    }

    int runs() {
        return runs;
    }

    int steps() {
        return steps;
    }
}
