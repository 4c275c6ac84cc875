import java.util.ArrayList;
import java.util.Arrays;
import java.util.List;
import java.util.Random;
import java.util.TreeMap;

/**
 * Promises 1 to 13 against the model: random lives of 512 calls, each call made of both and the answers
 * compared. The code is drawn so that it mostly fits its types, else no set would ever be sealed.
 */
public final class ModelTest extends Sets {
    private static final int LIVES = 8000;
    private static final int CALLS = 512;
    private static final int[] ODD = {Integer.MIN_VALUE, -2, -1, 0, 1, 2, 3, 7, 8, 11, 12, 15, 16, 20, Integer.MAX_VALUE};

    private final Random random;
    private final TamedClassSet real = new TamedClassSet();
    private final Model model = new Model();
    private final List<String> calls = new ArrayList<>();
    private final TreeMap<String, Integer> seen;
    private boolean wrong;

    private int classes = 0;
    private final int[] parents = new int[8];
    private final List<int[]> fields = new ArrayList<>();
    private final List<int[]> methods = new ArrayList<>();

    private ModelTest(long seed, TreeMap<String, Integer> seen) {
        random = new Random(seed);
        this.seen = seen;
    }

    public static void main(String[] args) {
        Deadline.set();
        TreeMap<String, Integer> seen = new TreeMap<>();
        int wrongLives = 0;
        for (int seed = 0; seed < LIVES && wrongLives < 3; seed++) {
            if (!new ModelTest(seed, seen).live()) wrongLives++;
        }
        boolean all = true;
        String[] due = {"check 0", "check 1", "check 2", "check 3", "check 4", "check 5", "check 6", "check 7", "run FAULT+1",
            "run FAULT+2", "run FAULT+3", "run FAULT+4", "run REFUSED", "run UNHELD", "run NULL", "run OBJECT", "run int",
            "look int", "look NULL", "look OBJECT", "look UNHELD", "look REFUSED"};
        for (String kind : due) {
            if (seen.containsKey(kind)) continue;
            System.out.println("the lives never came to: " + kind);
            all = false;
        }
        if (args.length > 0) System.out.println(seen);
        System.out.println(wrongLives == 0 ? LIVES + " lives as the model's" : wrongLives + " lives not as the model's");
        if (wrongLives > 0 || !all) System.exit(1);
    }

    private boolean live() {
        while (calls.size() < CALLS && !wrong) {
            boolean sealed = build() == 0;
            if (sealed || chance(5)) use();
            if (chance(90)) clear();
            // Behind the fortieth run little is left to compare.
            if (model.runs() == 40 && chance(70)) break;
        }
        return !wrong;
    }

    private boolean chance(int percent) {
        return random.nextInt(100) < percent;
    }

    private int odd() {
        return ODD[random.nextInt(ODD.length)];
    }

    /** Mostly one of 0 .. bound - 1, at times any odd number. */
    private int some(int bound) {
        return bound > 0 && chance(97) ? random.nextInt(bound) : odd();
    }

    private int pick(int... choices) {
        return choices[random.nextInt(choices.length)];
    }

    private void count(String kind) {
        seen.merge(kind, 1, Integer::sum);
    }

    private int same(String call, int got, int want) {
        compare(call, got, want);
        return want;
    }

    private void compare(String call, long got, long want) {
        calls.add(call + " -> " + want);
        boolean isFree = calls.size() > CALLS;
        if (got == want || isFree || wrong) return;
        wrong = true;
        for (String earlier : calls) System.out.println("  " + earlier);
        System.out.println("but the class answered " + got);
    }

    private void clear() {
        real.clear();
        model.clear();
        calls.add("clear()");
        classes = 0;
        fields.clear();
        methods.clear();
    }

    private int build() {
        boolean tame = chance(85);
        for (int n = 1 + random.nextInt(5); n > 0; n--) newClass(tame);
        for (int n = random.nextInt(8); n > 0; n--) newField(tame);
        for (int n = 1 + random.nextInt(8); n > 0; n--) newMethod(tame);
        for (int m = 0; m < methods.size(); m++) newCode(m, tame);
        if (chance(2)) for (int n = 0; n < 12; n++) newField(tame);
        if (chance(2)) for (int n = 0; n < 9; n++) newMethod(tame);
        if (chance(2)) for (int n = 0; n < 8; n++) newClass(tame);
        int answer = same("check()", real.check(), model.check());
        count("check " + answer / 1000);
        return answer;
    }

    private void newClass(boolean tame) {
        int parent = chance(50) ? -1 : some(classes);
        int marks = chance(tame ? 88 : 55) ? 0 : some(4);
        int answer = same("addClass(" + parent + ", " + marks + ")", real.addClass(parent, marks), model.addClass(parent, marks));
        if (answer < 0) return;
        parents[answer] = parent;
        classes = answer + 1;
    }

    private int someType() {
        return chance(30) ? INT : chance(30) ? CELL_TYPE : 2 + some(classes);
    }

    private void newField(boolean tame) {
        int cls = some(classes);
        int how = tame ? pick(0, 0, 2, 2, 2, 3) : some(4);
        int type = how == 3 && tame ? INT : someType();
        int answer = same("addField(" + cls + ", " + how + ", " + type + ")", real.addField(cls, how, type), model.addField(cls, how, type));
        if (answer >= 0) fields.add(new int[] {cls, how, type});
    }

    private void newMethod(boolean tame) {
        int cls = some(classes);
        int how = chance(50) ? 1 : some(2);
        int name = some(8);
        int param = chance(30) ? -1 : someType();
        int result = someType();
        if (tame && !methods.isEmpty()) {
            int[] other = methods.get(random.nextInt(methods.size()));
            if (other[1] == 0 && chance(50)) {
                how = 0;
                name = other[2];
                param = other[3];
                result = other[4];
            }
        }
        int answer = same("addMethod(" + cls + ", " + how + ", " + name + ", " + param + ", " + result + ")",
                real.addMethod(cls, how, name, param, result), model.addMethod(cls, how, name, param, result));
        if (answer >= 0) methods.add(new int[] {cls, how, name, param, result});
    }

    private boolean under(int cls, int other) {
        for (int c = cls; c >= 0; c = parents[c]) if (c == other) return true;
        return false;
    }

    private boolean fits(int s, int t) {
        return s == t || s >= 2 && t >= 2 && under(s - 2, t - 2);
    }

    /** Draws code that fits, following one way, with the other ways of ZERO waiting for their place. */
    private void newCode(int method, boolean tame) {
        int[] m = methods.get(method);
        List<int[]> code = new ArrayList<>();
        List<String> shapes = new ArrayList<>();
        List<Object[]> waiting = new ArrayList<>();
        ArrayList<Integer> stack = new ArrayList<>();
        Integer[] locals = new Integer[3];
        int next = 0;
        if (m[1] == 0) locals[next++] = 2 + m[0];
        if (m[3] != -1) locals[next] = m[3];
        boolean maker = chance(35) && newMaker(m, code, locals);
        while (!maker && code.size() < 12) {
            String here = stack + Arrays.toString(locals);
            for (int k = waiting.size() - 1; k >= 0; k--) {
                if (!waiting.get(k)[1].equals(here)) continue;
                ((int[]) waiting.get(k)[0])[1] = code.size();
                waiting.remove(k);
            }
            shapes.add(here);
            int[] ins = draw(m, stack, locals, 12 - code.size());
            code.add(ins);
            String after = stack + Arrays.toString(locals);
            if (ins[0] == ZERO || ins[0] == JUMP) {
                int back = chance(40) ? shapes.indexOf(after) : -1;
                if (back >= 0) ins[1] = back;
                else waiting.add(new Object[] {ins, after, new ArrayList<>(stack), locals.clone()});
            }
            if (ins[0] != RETURN && ins[0] != JUMP) continue;
            if (waiting.isEmpty()) break;
            Object[] resumed = waiting.get(0);
            stack = copy(resumed[2]);
            locals = ((Integer[]) resumed[3]).clone();
        }
        if (!tame || chance(3)) spoil(code);
        for (int[] ins : code) {
            same("emit(" + method + ", " + ins[0] + ", " + ins[1] + ")", real.emit(method, ins[0], ins[1]), model.emit(method, ins[0], ins[1]));
        }
    }

    /** Code that makes something and returns it, so that there is something to run on; false if there is none. */
    private boolean newMaker(int[] m, List<int[]> code, Integer[] locals) {
        if (m[4] == INT) return false;
        ArrayList<Integer> stack = new ArrayList<>();
        if (m[4] == CELL_TYPE) {
            value(INT, code, locals);
            code.add(new int[] {CELL, 0});
        } else {
            List<Integer> fitting = new ArrayList<>();
            for (int c = 0; c < classes; c++) if (fits(2 + c, m[4])) fitting.add(c);
            int cls = fitting.get(random.nextInt(fitting.size()));
            for (int[] f : fields) {
                if ((f[1] & 1) != 0 || !under(cls, f[0])) continue;
                value(f[2], code, locals);
                stack.add(f[2]);
            }
            code.add(new int[] {MAKE, cls});
        }
        code.add(new int[] {RETURN, 0});
        if (stack.size() <= 4 && code.size() <= 12) return true;
        code.clear();
        return false;
    }

    private void value(int type, List<int[]> code, Integer[] locals) {
        for (int l = 0; l < 3; l++) {
            if (locals[l] == null || !fits(locals[l], type)) continue;
            code.add(new int[] {LOAD, l});
            return;
        }
        code.add(type < 2 ? new int[] {PUSH, odd()} : new int[] {NUL, type - 2});
        if (type == CELL_TYPE) code.add(new int[] {CELL, odd()});
    }

    private static ArrayList<Integer> copy(Object stack) {
        ArrayList<Integer> copy = new ArrayList<>();
        for (Object type : (ArrayList<?>) stack) copy.add((Integer) type);
        return copy;
    }

    private void spoil(List<int[]> code) {
        for (int n = random.nextInt(3); n > 0; n--) {
            int[] ins = code.get(random.nextInt(code.size()));
            if (chance(50)) ins[0] = some(20);
            else ins[1] = chance(50) ? odd() : random.nextInt(4);
        }
    }

    /** One instruction that can be done with the stack as it is; it changes the stack and the locals. */
    private int[] draw(int[] m, ArrayList<Integer> stack, Integer[] locals, int room) {
        boolean canReturn = !stack.isEmpty() && fits(stack.get(stack.size() - 1), m[4]);
        if (canReturn && (room < 3 || chance(20))) return new int[] {RETURN, odd()};
        if (room < 4 || chance(10)) {
            int[] result = forResult(m[4], stack, locals);
            if (result != null) return result;
        }
        for (int tries = 0; tries < 60; tries++) {
            int op = tries < 20 ? pick(MAKE, GET, PUT, GET, PUT, SAME, CALL, READ, WRITE) : random.nextInt(19);
            int[] ins = tryOne(op, stack, locals);
            if (ins != null) return ins;
        }
        return new int[] {JUMP, 0};
    }

    private int[] forResult(int result, ArrayList<Integer> stack, Integer[] locals) {
        if (stack.size() == 4) return null;
        for (int l = 0; l < 3; l++) {
            if (locals[l] == null || !fits(locals[l], result)) continue;
            stack.add(locals[l]);
            return new int[] {LOAD, l};
        }
        if (result == CELL_TYPE && !stack.isEmpty() && stack.get(stack.size() - 1) == INT) {
            stack.set(stack.size() - 1, CELL_TYPE);
            return new int[] {CELL, 0};
        }
        if (result < 2) {
            stack.add(INT);
            return new int[] {PUSH, pick(0, 1, 2, -1)};
        }
        stack.add(result);
        return new int[] {NUL, result - 2};
    }

    private boolean takes(ArrayList<Integer> stack, List<Integer> wanted) {
        int below = stack.size() - wanted.size();
        if (below < 0) return false;
        for (int k = 0; k < wanted.size(); k++) {
            int type = stack.get(below + k);
            if (wanted.get(k) == -1 ? type == INT : !fits(type, wanted.get(k))) return false;
        }
        while (stack.size() > below) stack.remove(stack.size() - 1);
        return true;
    }

    /** The instruction, if it can be done; -1 in what is wanted stands for any reference, -1 as given for nothing. */
    private int[] tryOne(int op, ArrayList<Integer> stack, Integer[] locals) {
        if (op == CALL && methods.isEmpty()) return null;
        int a = odd();
        int given = -1;
        List<Integer> wanted = new ArrayList<>();
        switch (op) {
            case PUSH -> { a = pick(0, 0, 1, 2, 3, -1, Integer.MAX_VALUE, Integer.MIN_VALUE); given = INT; }
            case LOAD -> {
                a = random.nextInt(3);
                if (locals[a] == null) return null;
                given = locals[a];
            }
            case STORE -> {
                if (stack.isEmpty()) return null;
                a = random.nextInt(3);
                locals[a] = stack.remove(stack.size() - 1);
            }
            case ADD, SUB -> { wanted = List.of(INT, INT); given = INT; }
            case JUMP -> { if (!chance(5)) return null; }
            case ZERO -> wanted = List.of(INT);
            case MAKE, NUL -> {
                if (classes == 0) return null;
                a = random.nextInt(classes);
                given = 2 + a;
                for (int[] f : fields) if (op == MAKE && (f[1] & 1) == 0 && under(a, f[0])) wanted.add(f[2]);
            }
            case GET, PUT, GETS, PUTS -> {
                if (fields.isEmpty()) return null;
                a = random.nextInt(fields.size());
                int[] f = fields.get(a);
                if (((f[1] & 1) != 0) != (op == GETS || op == PUTS)) return null;
                if ((op == PUT || op == PUTS) && f[1] >= 2 && !chance(6)) return null;
                if (op == GET || op == PUT) wanted.add(2 + f[0]);
                if (op == PUT || op == PUTS) wanted.add(f[2]);
                if (op == GET || op == GETS) given = f[2];
            }
            case CALL -> {
                a = random.nextInt(methods.size());
                int[] called = methods.get(a);
                if (called[1] == 0) wanted.add(2 + called[0]);
                if (called[3] != -1) wanted.add(called[3]);
                given = called[4];
            }
            case CELL -> { wanted = List.of(INT); given = CELL_TYPE; }
            case READ -> { wanted = List.of(CELL_TYPE); given = INT; }
            case WRITE -> wanted = List.of(CELL_TYPE, INT);
            case SAME -> { wanted = List.of(-1, -1); given = INT; }
            case LIBRARY -> { a = chance(95) ? random.nextInt(2) : random.nextInt(4); wanted = List.of(INT); given = INT; }
            default -> { return null; }
        }
        if (given != -1 && stack.size() - wanted.size() >= 4) return null;
        if (!takes(stack, wanted)) return null;
        if (given != -1) stack.add(given);
        return new int[] {op, a};
    }

    private void use() {
        for (int m = 0; m < methods.size(); m++) {
            if (!chance(30)) continue;
            for (int i = 0; i < 13; i += 1 + random.nextInt(3)) {
                same("typesAt(" + m + ", " + i + ")", real.typesAt(m, i), model.typesAt(m, i));
            }
        }
        for (int n = random.nextInt(120); n > 0 && calls.size() < CALLS && !wrong; n--) useOnce();
    }

    /** Mostly a handle that holds what fits a type. */
    private int handleFor(int type) {
        List<Integer> fitting = new ArrayList<>();
        for (int h = 0; h < 16; h++) if (model.held(h) > 0 && fits(model.held(h), type)) fitting.add(h);
        return fitting.isEmpty() || chance(4) ? odd() : fitting.get(random.nextInt(fitting.size()));
    }

    private void useOnce() {
        int kind = random.nextInt(10);
        if (kind < 4) {
            int m = some(methods.size());
            boolean known = m >= 0 && m < methods.size();
            int r = known && methods.get(m)[1] == 0 ? handleFor(2 + methods.get(m)[0]) : odd();
            int a = known && methods.get(m)[3] > 0 && chance(80) ? handleFor(methods.get(m)[3]) : odd();
            long answer = model.run(m, r, a);
            count("run " + kindOf(answer));
            compare("run(" + m + ", " + r + ", " + a + ")", real.run(m, r, a), answer);
            same("steps()", real.steps(), model.steps());
        } else if (kind < 8) {
            int h = some(chance(80) ? 4 : 17);
            int f = some(fields.size());
            long answer = model.look(h, f);
            count("look " + kindOf(answer));
            compare("look(" + h + ", " + f + ")", real.look(h, f), answer);
        } else {
            int h = some(17);
            same("held(" + h + ")", real.held(h), model.held(h));
            same("runs()", real.runs(), model.runs());
        }
    }

    private static String kindOf(long answer) {
        if (answer == TamedClassSet.REFUSED) return "REFUSED";
        if (answer == TamedClassSet.UNHELD) return "UNHELD";
        if (answer == TamedClassSet.NULL) return "NULL";
        if (answer >= TamedClassSet.FAULT) return "FAULT+" + (answer - TamedClassSet.FAULT);
        return answer >= TamedClassSet.OBJECT ? "OBJECT" : "int";
    }
}
