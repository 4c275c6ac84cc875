import java.util.ArrayList;
import java.util.Arrays;
import java.util.List;
import java.util.Random;

/** Draws sets at random whose rules mostly hold and whose code mostly fits its types, else none would ever be sealed. */
final class Drawing extends Sets {
    private static final int[] ODD = {Integer.MIN_VALUE, -2, -1, 0, 1, 2, 3, 7, 8, 11, 12, 15, 16, 20, Integer.MAX_VALUE};

    /** What a drawn set is built with; it answers as the class does. */
    interface Builder {
        int addClass(int parent, int marks);

        int addField(int cls, int how, int type);

        int addMethod(int cls, int how, int name, int param, int result);

        int emit(int method, int op, int a);

        int check();
    }

    /** What was drawn and taken: a field is {class, how, type}, a method {class, how, name, param, result}. */
    final List<int[]> fields = new ArrayList<>();
    final List<int[]> methods = new ArrayList<>();
    int classes = 0;
    private final int[] parents = new int[8];
    private final int[] marks = new int[8];
    private final Random random;
    private final Builder builder;
    private final int markedPercent;
    private final int carefulPercent;

    /** How many of the classes of a tame set have marks, and how many of its fields are drawn as rules 1 and 2 want them. */
    Drawing(long seed, Builder builder, int markedPercent, int carefulPercent) {
        random = new Random(seed);
        this.builder = builder;
        this.markedPercent = markedPercent;
        this.carefulPercent = carefulPercent;
    }

    int below(int bound) {
        return random.nextInt(bound);
    }

    boolean chance(int percent) {
        return random.nextInt(100) < percent;
    }

    int odd() {
        return ODD[random.nextInt(ODD.length)];
    }

    /** Mostly one of 0 .. bound - 1, at times any odd number. */
    int some(int bound) {
        return bound > 0 && chance(97) ? random.nextInt(bound) : odd();
    }

    int pick(int... choices) {
        return choices[random.nextInt(choices.length)];
    }

    boolean under(int cls, int other) {
        for (int c = cls; c >= 0; c = parents[c]) if (c == other) return true;
        return false;
    }

    boolean fits(int s, int t) {
        return s == t || s >= 2 && t >= 2 && under(s - 2, t - 2);
    }

    boolean immutable(int type) {
        return marked(type, 3);
    }

    boolean powerless(int type) {
        return marked(type, 2);
    }

    boolean isStaticField(int field) {
        return (fields.get(field)[1] & STATIC) != 0;
    }

    boolean isFinalField(int field) {
        return (fields.get(field)[1] & FINAL) != 0;
    }

    /** Whether an object of a class has a field among its own. */
    boolean owns(int cls, int field) {
        return !isStaticField(field) && under(cls, fields.get(field)[0]);
    }

    private boolean marked(int type, int wanted) {
        if (type < 2) return type == INT;
        for (int c = type - 2; c >= 0; c = parents[c]) if ((marks[c] & wanted) != 0) return true;
        return false;
    }

    void forget() {
        classes = 0;
        fields.clear();
        methods.clear();
    }

    int build() {
        boolean tame = chance(85);
        for (int n = 1 + random.nextInt(5); n > 0; n--) newClass(tame);
        for (int n = random.nextInt(8); n > 0; n--) newField(tame);
        for (int n = 1 + random.nextInt(8); n > 0; n--) newMethod(tame);
        for (int m = 0; m < methods.size(); m++) newCode(m, tame);
        if (chance(2)) for (int n = 0; n < 12; n++) newField(tame);
        if (chance(2)) for (int n = 0; n < 9; n++) newMethod(tame);
        if (chance(2)) for (int n = 0; n < 8; n++) newClass(tame);
        return builder.check();
    }

    private void newClass(boolean tame) {
        int parent = chance(50) ? -1 : some(classes);
        int drawn = chance(tame ? markedPercent : 45) ? some(4) : 0;
        int answer = builder.addClass(parent, drawn);
        if (answer < 0) return;
        parents[answer] = parent;
        marks[answer] = drawn;
        classes = answer + 1;
    }

    private int someType() {
        return chance(30) ? INT : chance(30) ? CELL_TYPE : 2 + some(classes);
    }

    private void newField(boolean tame) {
        int cls = some(classes);
        int how = tame ? pick(0, 0, 2, 2, 2, 3) : some(4);
        int type = someType();
        if (tame && chance(carefulPercent)) {
            if (how != STATIC + FINAL && isOwnOfMarked(cls, 3)) how = FINAL;
            if (how == STATIC + FINAL || isOwnOfMarked(cls, 2)) type = someMarkedType(2);
            else if (isOwnOfMarked(cls, 3)) type = someMarkedType(3);
        }
        int answer = builder.addField(cls, how, type);
        if (answer >= 0) fields.add(new int[] {cls, how, type});
    }

    /** Whether some class under the told one is marked. */
    private boolean isOwnOfMarked(int cls, int wanted) {
        for (int c = 0; c < classes; c++) if (under(c, cls) && marked(2 + c, wanted)) return true;
        return false;
    }

    private int someMarkedType(int wanted) {
        int type = someType();
        boolean isMarked = type >= 2 && type < 2 + classes && marked(type, wanted);
        return isMarked ? type : INT;
    }

    private void newMethod(boolean tame) {
        int cls = some(classes);
        int how = chance(50) ? 1 : some(2);
        int name = some(8);
        int param = chance(30) ? -1 : someType();
        int result = someType();
        if (tame && !methods.isEmpty()) {
            int[] other = methods.get(random.nextInt(methods.size()));
            if (other[1] == 0 && chance(50)) {
                how = 0;
                name = other[2];
                param = other[3];
                result = other[4];
            }
        }
        int answer = builder.addMethod(cls, how, name, param, result);
        if (answer >= 0) methods.add(new int[] {cls, how, name, param, result});
    }

    /** Draws code that fits, following one way, with the other ways of ZERO waiting for their place. */
    private void newCode(int method, boolean tame) {
        int[] m = methods.get(method);
        List<int[]> code = new ArrayList<>();
        List<String> shapes = new ArrayList<>();
        List<Object[]> waiting = new ArrayList<>();
        ArrayList<Integer> stack = new ArrayList<>();
        Integer[] locals = new Integer[3];
        int next = 0;
        if (m[1] == 0) locals[next++] = 2 + m[0];
        if (m[3] != -1) locals[next] = m[3];
        boolean isDone = chance(35) && newMaker(m, code, locals) || chance(50) && newChanger(m, code, locals);
        while (!isDone && code.size() < 12) {
            String here = stack + Arrays.toString(locals);
            for (int k = waiting.size() - 1; k >= 0; k--) {
                if (!waiting.get(k)[1].equals(here)) continue;
                ((int[]) waiting.get(k)[0])[1] = code.size();
                waiting.remove(k);
            }
            shapes.add(here);
            int[] ins = draw(m, stack, locals, 12 - code.size());
            code.add(ins);
            String after = stack + Arrays.toString(locals);
            if (ins[0] == ZERO || ins[0] == JUMP) {
                int back = chance(40) ? shapes.indexOf(after) : -1;
                if (back >= 0) ins[1] = back;
                else waiting.add(new Object[] {ins, after, new ArrayList<>(stack), locals.clone()});
            }
            if (ins[0] != RETURN && ins[0] != JUMP) continue;
            if (waiting.isEmpty()) break;
            Object[] resumed = waiting.get(0);
            stack = copy(resumed[2]);
            locals = ((Integer[]) resumed[3]).clone();
        }
        if (!tame || chance(3)) spoil(code);
        for (int[] ins : code) builder.emit(method, ins[0], ins[1]);
    }

    /** Code that makes something and returns it, so that there is something to run on; false if there is none. */
    private boolean newMaker(int[] m, List<int[]> code, Integer[] locals) {
        if (m[4] == INT) return false;
        ArrayList<Integer> stack = new ArrayList<>();
        if (m[4] == CELL_TYPE) {
            value(INT, code, locals);
            code.add(new int[] {CELL, 0});
        } else {
            List<Integer> fitting = new ArrayList<>();
            for (int c = 0; c < classes; c++) if (fits(2 + c, m[4])) fitting.add(c);
            int cls = fitting.get(random.nextInt(fitting.size()));
            for (int f = 0; f < fields.size(); f++) {
                if (!owns(cls, f)) continue;
                value(fields.get(f)[2], code, locals);
                stack.add(fields.get(f)[2]);
            }
            code.add(new int[] {MAKE, cls});
        }
        code.add(new int[] {RETURN, 0});
        if (stack.size() <= 4 && code.size() <= 12) return true;
        code.clear();
        return false;
    }

    /** Code that changes something that it was handed; false if there is nothing to change. */
    private boolean newChanger(int[] m, List<int[]> code, Integer[] locals) {
        int local = random.nextInt(2);
        if (locals[local] == null || locals[local] == INT) return false;
        List<int[]> changes = new ArrayList<>();
        if (locals[local] == CELL_TYPE) changes.add(new int[] {WRITE, odd(), INT});
        for (int f = 0; f < fields.size(); f++) {
            boolean isOwn = locals[local] >= 2 && owns(locals[local] - 2, f);
            if (isOwn && (!isFinalField(f) || chance(4))) changes.add(new int[] {PUT, f, fields.get(f)[2]});
        }
        if (changes.isEmpty()) return false;
        int[] change = changes.get(random.nextInt(changes.size()));
        code.add(new int[] {LOAD, local});
        value(change[2], code, locals);
        code.add(change);
        value(m[4], code, locals);
        code.add(new int[] {RETURN, odd()});
        return true;
    }

    private void value(int type, List<int[]> code, Integer[] locals) {
        for (int l = 0; l < 3; l++) {
            if (locals[l] == null || !fits(locals[l], type)) continue;
            code.add(new int[] {LOAD, l});
            return;
        }
        code.add(type < 2 ? new int[] {PUSH, odd()} : new int[] {NUL, type - 2});
        if (type == CELL_TYPE) code.add(new int[] {CELL, odd()});
    }

    private static ArrayList<Integer> copy(Object stack) {
        ArrayList<Integer> copy = new ArrayList<>();
        for (Object type : (ArrayList<?>) stack) copy.add((Integer) type);
        return copy;
    }

    private void spoil(List<int[]> code) {
        for (int n = random.nextInt(3); n > 0; n--) {
            int[] ins = code.get(random.nextInt(code.size()));
            if (chance(50)) ins[0] = some(20);
            else ins[1] = chance(50) ? odd() : random.nextInt(4);
        }
    }

    /** One instruction that can be done with the stack as it is; it changes the stack and the locals. */
    private int[] draw(int[] m, ArrayList<Integer> stack, Integer[] locals, int room) {
        boolean canReturn = !stack.isEmpty() && fits(stack.get(stack.size() - 1), m[4]);
        if (canReturn && (room < 3 || chance(20))) return new int[] {RETURN, odd()};
        if (room < 4 || chance(10)) {
            int[] result = forResult(m[4], stack, locals);
            if (result != null) return result;
        }
        for (int tries = 0; tries < 60; tries++) {
            int op = tries < 20 ? pick(MAKE, GET, PUT, GET, PUT, SAME, CALL, READ, WRITE) : random.nextInt(19);
            int[] ins = tryOne(op, stack, locals);
            if (ins != null) return ins;
        }
        return new int[] {JUMP, 0};
    }

    private int[] forResult(int result, ArrayList<Integer> stack, Integer[] locals) {
        if (stack.size() == 4) return null;
        for (int l = 0; l < 3; l++) {
            if (locals[l] == null || !fits(locals[l], result)) continue;
            stack.add(locals[l]);
            return new int[] {LOAD, l};
        }
        if (result == CELL_TYPE && !stack.isEmpty() && stack.get(stack.size() - 1) == INT) {
            stack.set(stack.size() - 1, CELL_TYPE);
            return new int[] {CELL, 0};
        }
        if (result < 2) {
            stack.add(INT);
            return new int[] {PUSH, pick(0, 1, 2, -1)};
        }
        stack.add(result);
        return new int[] {NUL, result - 2};
    }

    private boolean takes(ArrayList<Integer> stack, List<Integer> wanted) {
        int below = stack.size() - wanted.size();
        if (below < 0) return false;
        for (int k = 0; k < wanted.size(); k++) {
            int type = stack.get(below + k);
            if (wanted.get(k) == -1 ? !canCompare(type) : !fits(type, wanted.get(k))) return false;
        }
        while (stack.size() > below) stack.remove(stack.size() - 1);
        return true;
    }

    /** Mostly no value of an immutable type, since rule 7 wants none. */
    private boolean canCompare(int type) {
        return type != INT && (!immutable(type) || chance(10));
    }

    /** The instruction, if it can be done; -1 in what is wanted stands for any reference, -1 as given for nothing. */
    private int[] tryOne(int op, ArrayList<Integer> stack, Integer[] locals) {
        if (op == CALL && methods.isEmpty()) return null;
        int a = odd();
        int given = -1;
        List<Integer> wanted = new ArrayList<>();
        switch (op) {
            case PUSH -> { a = pick(0, 0, 1, 2, 3, -1, Integer.MAX_VALUE, Integer.MIN_VALUE); given = INT; }
            case LOAD -> {
                a = random.nextInt(3);
                if (locals[a] == null) return null;
                given = locals[a];
            }
            case STORE -> {
                if (stack.isEmpty()) return null;
                a = random.nextInt(3);
                locals[a] = stack.remove(stack.size() - 1);
            }
            case ADD, SUB -> { wanted = List.of(INT, INT); given = INT; }
            case JUMP -> { if (!chance(5)) return null; }
            case ZERO -> wanted = List.of(INT);
            case MAKE, NUL -> {
                if (classes == 0) return null;
                a = random.nextInt(classes);
                given = 2 + a;
                for (int f = 0; f < fields.size(); f++) if (op == MAKE && owns(a, f)) wanted.add(fields.get(f)[2]);
            }
            case GET, PUT, GETS, PUTS -> {
                if (fields.isEmpty()) return null;
                a = random.nextInt(fields.size());
                int[] f = fields.get(a);
                if (isStaticField(a) != (op == GETS || op == PUTS)) return null;
                if ((op == PUT || op == PUTS) && isFinalField(a) && !chance(6)) return null;
                if (op == GET || op == PUT) wanted.add(2 + f[0]);
                if (op == PUT || op == PUTS) wanted.add(f[2]);
                if (op == GET || op == GETS) given = f[2];
            }
            case CALL -> {
                // Most runs would end with too many methods under way if calls were as common as the rest.
                if (!chance(30)) return null;
                a = random.nextInt(methods.size());
                int[] called = methods.get(a);
                if (called[1] == 0) wanted.add(2 + called[0]);
                if (called[3] != -1) wanted.add(called[3]);
                given = called[4];
            }
            case CELL -> { wanted = List.of(INT); given = CELL_TYPE; }
            case READ -> { wanted = List.of(CELL_TYPE); given = INT; }
            case WRITE -> wanted = List.of(CELL_TYPE, INT);
            case SAME -> { wanted = List.of(-1, -1); given = INT; }
            case LIBRARY -> { a = chance(95) ? random.nextInt(2) : random.nextInt(4); wanted = List.of(INT); given = INT; }
            default -> { return null; }
        }
        if (given != -1 && stack.size() - wanted.size() >= 4) return null;
        if (!takes(stack, wanted)) return null;
        if (given != -1) stack.add(given);
        return new int[] {op, a};
    }
}
