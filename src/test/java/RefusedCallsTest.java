import java.util.ArrayList;
import java.util.List;

/**
 * "A refused call changes nothing.": a life of calls is played once as it is, and once again for every refused call,
 * which is put in behind each step of the life; all answers of the life must stay the same.
 */
public final class RefusedCallsTest extends Sets {
    private static final int ADD_CLASS = 0, ADD_FIELD = 1, ADD_METHOD = 2, EMIT = 3, CHECK = 4, CLEAR = 5, TYPES_AT = 6, RUN = 7,
            LOOK = 8, HELD = 9, RUNS = 10, STEPS = 11;
    private static final String[] NAMES = {"addClass", "addField", "addMethod", "emit", "check", "clear", "typesAt", "run", "look",
        "held", "runs", "steps"};
    private static final int LAST_CALL = 512;
    private static final long BAD = TamedClassSet.BAD, FULL = TamedClassSet.FULL, SEALED = TamedClassSet.SEALED,
            REFUSED = TamedClassSet.REFUSED;
    private static final Expect expect = new Expect();

    private final List<int[]> life = new ArrayList<>();
    private final List<Long> answers = new ArrayList<>();

    public static void main(String[] args) {
        whileOpen();
        whileFull();
        whileSealed();
        behindTheFortiethRun();
        expect.end();
    }

    private static long call(TamedClassSet x, int... c) {
        switch (c[0]) {
            case ADD_CLASS: return x.addClass(c[1], c[2]);
            case ADD_FIELD: return x.addField(c[1], c[2], c[3]);
            case ADD_METHOD: return x.addMethod(c[1], c[2], c[3], c[4], c[5]);
            case EMIT: return x.emit(c[1], c[2], c[3]);
            case CHECK: return x.check();
            case CLEAR: x.clear(); return 0;
            case TYPES_AT: return x.typesAt(c[1], c[2]);
            case RUN: return x.run(c[1], c[2], c[3]);
            case LOOK: return x.look(c[1], c[2]);
            case HELD: return x.held(c[1]);
            case RUNS: return x.runs();
            default: return x.steps();
        }
    }

    private static String told(int[] c) {
        StringBuilder text = new StringBuilder(NAMES[c[0]]).append('(');
        for (int k = 1; k < c.length; k++) text.append(k > 1 ? ", " : "").append(c[k]);
        return text.append(')').toString();
    }

    private void add(int... c) {
        life.add(c);
    }

    private void addCode(int method, int... code) {
        for (int k = 0; k < code.length; k += 2) add(EMIT, method, code[k], code[k + 1]);
    }

    private int step() {
        return life.size();
    }

    private void play() {
        TamedClassSet x = new TamedClassSet();
        for (int[] c : life) answers.add(call(x, c));
        expect.holds("the life has room for as many refused calls", 2 * life.size() <= LAST_CALL);
    }

    /** Puts the call in behind the steps told, and demands its answer each time. */
    private void refuse(int from, int to, long due, int... refused) {
        TamedClassSet x = new TamedClassSet();
        for (int k = 0; k < life.size(); k++) {
            if (k >= from && k <= to) expect.due(told(refused) + " before step " + k, call(x, refused), due);
            expect.due(told(life.get(k)) + " at step " + k + " with " + told(refused), call(x, life.get(k)), answers.get(k));
        }
    }

    private void refuseAlways(long due, int... refused) {
        refuse(0, life.size(), due, refused);
    }

    /** Adds every question about what runs gave and did. */
    private void ask(int handles, int fields) {
        for (int h = 0; h < handles; h++) {
            add(HELD, h);
            for (int f = 0; f < fields; f++) add(LOOK, h, f);
        }
        add(RUNS);
        add(STEPS);
    }

    /** Two classes, two fields, four methods: 0 makes an object, 1 a cell, 2 has a receiver and a parameter, 3 faults. */
    private void addSmallSet() {
        add(ADD_CLASS, -1, 0);
        add(ADD_FIELD, 0, 0, CELL_TYPE);
        add(ADD_METHOD, 0, STATIC, 0, CELL_TYPE, type(0));
        addCode(0, LOAD, 0, PUSH, 7, MAKE, 0, RETURN, 0);
        add(ADD_FIELD, 0, 0, INT);
        add(ADD_METHOD, 0, STATIC, 1, INT, CELL_TYPE);
        addCode(1, LOAD, 0, CELL, 0, RETURN, 0);
        add(ADD_CLASS, 0, 1);
        add(ADD_METHOD, 0, 0, 2, type(0), INT);
        addCode(2, LOAD, 0, PUSH, 9, PUT, 1, LOAD, 1, GET, 1, RETURN, 0);
        add(ADD_METHOD, 0, STATIC, 3, -1, INT);
        addCode(3, JUMP, 0);
    }

    /** The first set has an immutable child, which breaks rule 2; the second one breaks none. */
    private static void whileOpen() {
        expect.sentence("A refused call changes nothing.: a set that is open");
        RefusedCallsTest t = new RefusedCallsTest();
        t.addSmallSet();
        int built = t.step();
        t.add(CHECK);
        t.add(CLEAR);
        int cleared = t.step();
        t.add(ADD_CLASS, -1, 2);
        t.add(ADD_FIELD, 0, STATIC + FINAL, type(0));
        int method = t.step();
        t.add(ADD_METHOD, 0, STATIC, 0, -1, type(0));
        int emitting = t.step();
        t.addCode(0, GETS, 0, RETURN, 0);
        t.add(ADD_CLASS, 0, 0);
        t.add(ADD_METHOD, 1, STATIC, 1, type(1), type(0));
        t.addCode(1, LOAD, 0, RETURN, 0);
        int end = t.step();
        t.add(CHECK);
        t.add(TYPES_AT, 0, 1);
        t.add(TYPES_AT, 1, 1);
        t.add(RUN, 0, 0, 0);
        t.ask(2, 2);
        t.play();
        t.refuse(0, end, BAD, ADD_CLASS, -2, 0);
        t.refuse(0, end, BAD, ADD_CLASS, 8, 0);
        t.refuse(0, end, BAD, ADD_CLASS, -1, 4);
        t.refuse(0, end, BAD, ADD_CLASS, -1, -1);
        t.refuse(0, end, BAD, ADD_FIELD, -1, 0, 0);
        t.refuse(0, end, BAD, ADD_FIELD, 8, 0, 0);
        t.refuse(0, end, BAD, ADD_FIELD, 0, 4, 0);
        t.refuse(0, end, BAD, ADD_FIELD, 0, -1, 0);
        t.refuse(0, end, BAD, ADD_FIELD, 0, 1, 10);
        t.refuse(0, end, BAD, ADD_FIELD, 0, 1, -1);
        t.refuse(0, end, BAD, ADD_METHOD, 8, 0, 0, 0, 0);
        t.refuse(0, end, BAD, ADD_METHOD, 0, 2, 5, 0, 0);
        t.refuse(0, end, BAD, ADD_METHOD, 0, 0, 8, 0, 0);
        t.refuse(0, end, BAD, ADD_METHOD, 0, 0, -1, 0, 0);
        t.refuse(0, end, BAD, ADD_METHOD, 0, 0, 5, 10, 0);
        t.refuse(0, end, BAD, ADD_METHOD, 0, 0, 5, -2, 0);
        t.refuse(0, end, BAD, ADD_METHOD, 0, 0, 5, 0, 10);
        t.refuse(0, end, BAD, ADD_METHOD, 0, 0, 5, 0, -1);
        t.refuse(emitting, end, BAD, ADD_METHOD, 0, 0, 0, 0, 0);
        t.refuse(0, end, BAD, EMIT, 8, 0, 0);
        t.refuse(0, end, BAD, EMIT, -1, 0, 0);
        t.refuse(0, end, BAD, EMIT, 0, 20, 0);
        t.refuse(0, end, BAD, EMIT, 0, -1, 0);
        t.refuse(cleared, method, BAD, EMIT, 0, 0, 0);
        t.refuse(built, built, 2000, CHECK);
        t.refuse(emitting, emitting + 1, 4000, CHECK);
        t.refuse(0, end, BAD, TYPES_AT, 0, 0);
        t.refuse(0, end, REFUSED, RUN, 0, 0, 0);
        t.refuseAlways(REFUSED, LOOK, 0, 0);
        t.refuseAlways(BAD, HELD, 0);
    }

    private static void whileFull() {
        expect.sentence("A refused call changes nothing.: a set that is full");
        RefusedCallsTest t = new RefusedCallsTest();
        for (int c = 0; c < 8; c++) t.add(ADD_CLASS, -1, 0);
        int classes = t.step();
        for (int f = 0; f < 12; f++) t.add(ADD_FIELD, f % 8, 0, INT);
        int fields = t.step();
        for (int m = 0; m < 8; m++) t.add(ADD_METHOD, m, STATIC, 0, INT, type(m));
        int methods = t.step();
        t.addCode(0, LOAD, 0, LIBRARY, 0, LIBRARY, 0, LIBRARY, 0, LIBRARY, 0, LIBRARY, 0, LIBRARY, 0, LIBRARY, 0, LIBRARY, 0, PUSH, 5, MAKE, 0, RETURN, 0);
        int code = t.step();
        for (int m = 1; m < 8; m++) t.addCode(m, LOAD, 0, LOAD, 0, MAKE, m, RETURN, 0);
        t.add(CHECK);
        t.add(CLEAR);
        int cleared = t.step();
        for (int c = 0; c < 8; c++) t.add(ADD_CLASS, -1, 0);
        t.add(ADD_METHOD, 7, STATIC, 7, INT, type(7));
        t.addCode(0, MAKE, 7, RETURN, 0);
        t.add(CHECK);
        t.add(RUN, 0, 0, 3);
        t.ask(2, 2);
        t.play();
        t.refuse(classes, cleared - 2, FULL, ADD_CLASS, -1, 3);
        t.refuse(classes, cleared - 2, FULL, ADD_CLASS, 7, 1);
        t.refuse(fields, cleared - 2, FULL, ADD_FIELD, 0, 1, 1);
        t.refuse(fields, cleared - 2, FULL, ADD_FIELD, 7, 0, 9);
        t.refuse(methods, cleared - 2, FULL, ADD_METHOD, 7, 0, 7, -1, 0);
        t.refuse(methods, cleared - 2, BAD, ADD_METHOD, 7, 0, 0, -1, 0);
        t.refuse(code, cleared - 2, FULL, EMIT, 0, RETURN, 0);
        t.refuse(code, cleared - 2, FULL, EMIT, 0, LIBRARY, 2);
        t.refuse(methods, code - 1, 4000, CHECK);
    }

    private static void whileSealed() {
        expect.sentence("A refused call changes nothing.: a set that is sealed");
        RefusedCallsTest t = new RefusedCallsTest();
        t.add(ADD_CLASS, -1, 0);
        t.add(ADD_CLASS, -1, 0);
        t.add(ADD_FIELD, 0, 0, CELL_TYPE);
        t.add(ADD_FIELD, 0, 0, INT);
        t.add(ADD_METHOD, 0, STATIC, 0, CELL_TYPE, type(0));
        t.addCode(0, LOAD, 0, PUSH, 7, MAKE, 0, RETURN, 0);
        t.add(ADD_METHOD, 0, STATIC, 1, INT, CELL_TYPE);
        t.addCode(1, LOAD, 0, CELL, 0, RETURN, 0);
        t.add(ADD_METHOD, 0, 0, 2, type(0), INT);
        t.addCode(2, LOAD, 0, PUSH, 9, PUT, 1, LOAD, 1, GET, 1, RETURN, 0);
        t.add(ADD_METHOD, 0, STATIC, 3, -1, INT);
        t.addCode(3, JUMP, 0);
        t.add(CHECK);
        int sealed = t.step();
        for (int m = 0; m < 4; m++) for (int i = 0; i < 7; i++) t.add(TYPES_AT, m, i);
        t.ask(1, 2);
        t.add(RUN, 1, 0, 4);
        t.add(RUN, 0, 0, 0);
        t.add(RUN, 0, 0, -1);
        int handles = t.step();
        t.ask(4, 2);
        t.add(RUN, 2, 1, 2);
        t.ask(4, 2);
        t.add(RUN, 2, 1, -1);
        t.ask(4, 2);
        t.add(RUN, 3, 0, 0);
        t.ask(4, 2);
        int end = t.step();
        t.add(CLEAR);
        t.ask(1, 1);
        t.add(ADD_CLASS, -1, 0);
        t.play();
        t.refuse(sealed, end, SEALED, ADD_CLASS, -1, 1);
        t.refuse(sealed, end, SEALED, ADD_CLASS, 0, 3);
        t.refuse(sealed, end, SEALED, ADD_FIELD, 0, 0, 0);
        t.refuse(sealed, end, SEALED, ADD_FIELD, 0, 1, 1);
        t.refuse(sealed, end, SEALED, ADD_METHOD, 0, 0, 7, -1, 0);
        t.refuse(sealed, end, SEALED, EMIT, 0, PUSH, 3);
        t.refuse(sealed, end, SEALED, EMIT, 3, RETURN, 0);
        t.refuse(sealed, end, BAD, TYPES_AT, 4, 0);
        t.refuse(sealed, end, BAD, TYPES_AT, 0, 4);
        int[][] runs = {{-1, 0, 0}, {4, 0, 0}, {0, 0, -2}, {0, 0, 1}, {0, 0, 16}, {2, -1, -1}, {2, 0, -1}, {2, 3, -1}, {2, 16, -1}, {2, 1, 0}, {2, 1, 3}, {2, 1, 16}};
        for (int[] r : runs) t.refuse(handles, end, REFUSED, RUN, r[0], r[1], r[2]);
        t.refuse(sealed, end, REFUSED, LOOK, 3, 0);
        t.refuse(handles, end, REFUSED, LOOK, 1, 2);
        t.refuse(handles, end, REFUSED, LOOK, -1, 0);
        t.refuse(sealed, end, BAD, HELD, 3);
        t.refuse(sealed, end, BAD, HELD, 16);
    }

    /** The forty-first run would change a cell that is held. */
    private static void behindTheFortiethRun() {
        expect.sentence("A refused call changes nothing.: forty runs were made");
        RefusedCallsTest t = new RefusedCallsTest();
        t.add(ADD_CLASS, -1, 0);
        t.add(ADD_METHOD, 0, STATIC, 0, INT, CELL_TYPE);
        t.addCode(0, LOAD, 0, CELL, 0, RETURN, 0);
        t.add(ADD_METHOD, 0, STATIC, 1, CELL_TYPE, INT);
        t.addCode(1, LOAD, 0, PUSH, 77, WRITE, 0, JUMP, 3);
        t.add(CHECK);
        for (int n = 0; n < 40; n++) t.add(RUN, 0, 0, n);
        int spent = t.step();
        t.ask(16, 1);
        t.add(CHECK);
        t.add(TYPES_AT, 1, 2);
        t.play();
        t.refuse(spent, t.step(), REFUSED, RUN, 0, 0, 5);
        t.refuse(spent, t.step(), REFUSED, RUN, 1, 0, 3);
        t.refuse(spent, t.step(), REFUSED, RUN, 1, 0, -1);
    }
}
