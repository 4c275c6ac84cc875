import java.util.ArrayList;
import java.util.List;
import java.util.TreeMap;

/** Promises 1 to 13 against the model: random lives of 512 calls, each call made of both and the answers compared. */
public final class ModelTest implements Drawing.Builder {
    private static final int LIVES = 8000;
    private static final int CALLS = 512;

    private final TamedClassSet real = new TamedClassSet();
    private final Model model = new Model();
    private final Drawing drawing;
    private final List<String> calls = new ArrayList<>();
    private final TreeMap<String, Integer> seen;
    private boolean wrong;

    private ModelTest(long seed, TreeMap<String, Integer> seen) {
        this.seen = seen;
        drawing = new Drawing(seed, this, seed % 2 == 0 ? 12 : 30, 90);
    }

    public static void main(String[] args) {
        Deadline.set();
        TreeMap<String, Integer> seen = new TreeMap<>();
        int wrongLives = 0;
        for (int seed = 0; seed < LIVES && wrongLives < 3; seed++) {
            if (!new ModelTest(seed, seen).live()) wrongLives++;
        }
        boolean all = true;
        String[] due = {"check 0", "check 1", "check 2", "check 3", "check 4", "check 5", "check 6", "check 7", "run FAULT+1",
            "run FAULT+2", "run FAULT+3", "run FAULT+4", "run REFUSED", "run UNHELD", "run NULL", "run OBJECT", "run int",
            "look int", "look NULL", "look OBJECT", "look UNHELD", "look REFUSED"};
        for (String kind : due) {
            if (seen.containsKey(kind)) continue;
            System.out.println("the lives never came to: " + kind);
            all = false;
        }
        if (args.length > 0) System.out.println(seen);
        System.out.println(wrongLives == 0 ? LIVES + " lives as the model's" : wrongLives + " lives not as the model's");
        if (wrongLives > 0 || !all) System.exit(1);
    }

    private boolean live() {
        while (calls.size() < CALLS && !wrong) {
            boolean sealed = drawing.build() == 0;
            boolean canRun = sealed && !drawing.methods.isEmpty();
            if (canRun || drawing.chance(5)) use();
            if (drawing.chance(90)) clear();
            // Behind the fortieth run little is left to compare.
            if (model.runs() == 40 && drawing.chance(90)) break;
        }
        return !wrong;
    }

    @Override
    public int addClass(int parent, int marks) {
        return same("addClass(" + parent + ", " + marks + ")", real.addClass(parent, marks), model.addClass(parent, marks));
    }

    @Override
    public int addField(int cls, int how, int type) {
        return same("addField(" + cls + ", " + how + ", " + type + ")", real.addField(cls, how, type), model.addField(cls, how, type));
    }

    @Override
    public int addMethod(int cls, int how, int name, int param, int result) {
        return same("addMethod(" + cls + ", " + how + ", " + name + ", " + param + ", " + result + ")",
                real.addMethod(cls, how, name, param, result), model.addMethod(cls, how, name, param, result));
    }

    @Override
    public int emit(int method, int op, int a) {
        return same("emit(" + method + ", " + op + ", " + a + ")", real.emit(method, op, a), model.emit(method, op, a));
    }

    @Override
    public int check() {
        int answer = same("check()", real.check(), model.check());
        count("check " + answer / 1000);
        return answer;
    }

    private void clear() {
        real.clear();
        model.clear();
        calls.add("clear()");
        drawing.forget();
    }

    private void count(String kind) {
        seen.merge(kind, 1, Integer::sum);
    }

    private int same(String call, int got, int want) {
        compare(call, got, want);
        return want;
    }

    private void compare(String call, long got, long want) {
        calls.add(call + " -> " + want);
        boolean isFree = calls.size() > CALLS;
        if (got == want || isFree || wrong) return;
        wrong = true;
        for (String earlier : calls) System.out.println("  " + earlier);
        System.out.println("but the class answered " + got);
    }

    private void use() {
        for (int m = 0; m < drawing.methods.size(); m++) {
            if (!drawing.chance(30)) continue;
            for (int i = 0; i < 13; i += 1 + drawing.below(3)) {
                same("typesAt(" + m + ", " + i + ")", real.typesAt(m, i), model.typesAt(m, i));
            }
        }
        for (int n = drawing.below(80); n > 0 && calls.size() < CALLS && !wrong; n--) useOnce();
    }

    /** Mostly a handle that holds what fits a type. */
    private int handleFor(int type) {
        List<Integer> fitting = new ArrayList<>();
        for (int h = 0; h < 16; h++) if (model.held(h) > 0 && drawing.fits(model.held(h), type)) fitting.add(h);
        return fitting.isEmpty() || drawing.chance(4) ? drawing.odd() : fitting.get(drawing.below(fitting.size()));
    }

    private void useOnce() {
        int kind = drawing.below(10);
        if (kind < 4) {
            runOnce();
        } else if (kind < 8) {
            int h = heldHandle();
            int f = fieldOf(model.held(h));
            long answer = model.look(h, f);
            count("look " + kindOf(answer));
            compare("look(" + h + ", " + f + ")", real.look(h, f), answer);
        } else {
            int h = drawing.some(17);
            same("held(" + h + ")", real.held(h), model.held(h));
            same("runs()", real.runs(), model.runs());
        }
    }

    private int argumentFor(int type) {
        int handle = handleFor(type);
        return model.held(handle) < 0 && drawing.chance(90) ? -1 : handle;
    }

    private int heldHandle() {
        int count = 0;
        while (model.held(count) > 0) count++;
        return drawing.chance(95) ? drawing.some(count) : drawing.some(17);
    }

    /** Mostly a field that an object of a type has. */
    private int fieldOf(int type) {
        for (int tries = 0; tries < 9 && type >= 2 && !drawing.fields.isEmpty(); tries++) {
            int field = drawing.below(drawing.fields.size());
            if (drawing.owns(type - 2, field)) return field;
        }
        return drawing.some(drawing.fields.size());
    }

    /** Mostly a method that has no receiver or finds one. */
    private int someMethod() {
        for (int tries = 0; tries < 6 && !drawing.methods.isEmpty(); tries++) {
            int m = drawing.below(drawing.methods.size());
            int[] method = drawing.methods.get(m);
            if (method[1] == 1 || model.held(handleFor(2 + method[0])) > 0) return m;
        }
        return drawing.some(drawing.methods.size());
    }

    private void runOnce() {
        int m = someMethod();
        int[] method = m >= 0 && m < drawing.methods.size() ? drawing.methods.get(m) : null;
        int r = method != null && method[1] == 0 ? handleFor(2 + method[0]) : drawing.odd();
        int a = method != null && method[3] > 0 && drawing.chance(95) ? argumentFor(method[3]) : drawing.odd();
        long answer = model.run(m, r, a);
        count("run " + kindOf(answer));
        compare("run(" + m + ", " + r + ", " + a + ")", real.run(m, r, a), answer);
        same("steps()", real.steps(), model.steps());
    }

    private static String kindOf(long answer) {
        if (answer == TamedClassSet.REFUSED) return "REFUSED";
        if (answer == TamedClassSet.UNHELD) return "UNHELD";
        if (answer == TamedClassSet.NULL) return "NULL";
        if (answer >= TamedClassSet.FAULT) return "FAULT+" + (answer - TamedClassSet.FAULT);
        return answer >= TamedClassSet.OBJECT ? "OBJECT" : "int";
    }
}
