/** The boundary cases of what instructions do and of the four faults, each under the sentence that names it. */
public final class RunEdgesTest extends Sets {
    private static final long NULL = TamedClassSet.NULL, OBJECT = TamedClassSet.OBJECT, FAULT = TamedClassSet.FAULT,
            REFUSED = TamedClassSet.REFUSED;
    private static final int LEAST = Integer.MIN_VALUE, MOST = Integer.MAX_VALUE;
    private static final int[] INTS = {LEAST, LEAST + 1, -65536, -2, -1, 0, 1, 2, 65536, MOST - 1, MOST};
    /** A method that counts its argument n down to 0 and returns it: 7 * n + 4 steps. */
    private static final int[] COUNT = {LOAD, 0, ZERO, 7, LOAD, 0, PUSH, 1, SUB, 0, STORE, 0, JUMP, 0, LOAD, 0, RETURN, 0};
    private static final Expect expect = new Expect();

    public static void main(String[] args) {
        ownFieldsInOrder();
        ownLocalsAndStack();
        addWraps();
        subWraps();
        absolute();
        bits();
        zero();
        ownFieldsMade();
        staticFieldsGot();
        same();
        returned();
        chosen();
        sixtyFifth();
        nullFound();
        seventh();
        ninth();
        stepsBeforeNull();
        stepsBeforeSeventh();
        stepsBeforeNinth();
        nullBeforeSeventh();
        changesStay();
        expect.end();
    }

    private static void sealed(TamedClassSet x) {
        expect.due("check()", x.check(), 0);
    }

    /** A static method of class 0 with an int parameter and an int result, run once on each int. */
    private static TamedClassSet ofInt(int... code) {
        TamedClassSet x = plain();
        method(x, 0, STATIC, 0, INT, INT, code);
        sealed(x);
        return x;
    }

    /** Four fields of a line of eight classes, numbered against its order, with static ones and others' between them. */
    private static void ownFieldsInOrder() {
        expect.sentence("An object of a class has the fields, not static ones, of all classes of its line: its OWN fields, in the order of their numbers.");
        TamedClassSet x = new TamedClassSet();
        for (int c = 0; c < 7; c++) x.addClass(c - 1, 0);
        x.addClass(-1, 0);
        int[] classes = {7, 6, 0, 7, 4, 6, 3, 7, 2, 5, 7, 0};
        int[] own = {1, 4, 8, 11};
        for (int f = 0; f < 12; f++) {
            boolean isOwn = f == 1 || f == 4 || f == 8 || f == 11;
            x.addField(classes[f], isOwn || classes[f] == 7 ? 0 : STATIC + FINAL, INT);
        }
        method(x, 0, STATIC, 0, -1, type(6), PUSH, 10, PUSH, 20, PUSH, 30, PUSH, 40, MAKE, 6, RETURN, 0);
        method(x, 0, STATIC, 1, -1, type(2), PUSH, 50, PUSH, 60, MAKE, 2, RETURN, 0);
        method(x, 6, 0, 2, INT, INT, LOAD, 0, LOAD, 1, PUT, 8, LOAD, 0, GET, 11, LOAD, 0, GET, 4, SUB, 0, RETURN, 0);
        sealed(x);
        expect.due("an object of the seventh class", x.run(0, 0, 0), OBJECT);
        expect.due("an object of the third class", x.run(1, 0, 0), OBJECT + 1);
        for (int k = 0; k < 4; k++) expect.due("field " + own[k], x.look(0, own[k]), 10 * (k + 1));
        expect.due("the third class's field 8", x.look(1, 8), 50);
        expect.due("the third class's field 11", x.look(1, 11), 60);
        expect.due("GET 11 and 4 behind PUT 8", x.run(2, 0, 77), 20);
        int[] due = {10, 20, 77, 40};
        for (int k = 0; k < 4; k++) expect.due("field " + own[k] + " behind PUT 8", x.look(0, own[k]), due[k]);
        for (int f = 0; f < 12; f++) {
            boolean isOwn = f == 1 || f == 4 || f == 8 || f == 11;
            if (!isOwn) expect.due("field " + f + " is none of its own", x.look(0, f), REFUSED);
        }
    }

    private static void ownLocalsAndStack() {
        expect.sentence("While it runs, it has three LOCALS, 0 .. 2, and a STACK of at most 4 values.");
        TamedClassSet x = plain();
        method(x, 0, STATIC, 0, INT, INT, LOAD, 0, ZERO, 9, LOAD, 0, PUSH, 1, SUB, 0, CALL, 0, LOAD, 0, ADD, 0, RETURN, 0, LOAD, 0, RETURN, 0);
        method(x, 0, STATIC, 1, INT, INT, PUSH, 1, STORE, 0, PUSH, 2, STORE, 1, PUSH, 3, STORE, 2, PUSH, 4, PUSH, 5, PUSH, 6, PUSH, 7, RETURN, 0);
        method(x, 0, STATIC, 2, INT, INT, PUSH, 100, PUSH, 200, PUSH, 300, LOAD, 0, CALL, 1, ADD, 0, ADD, 0, ADD, 0, RETURN, 0);
        method(x, 0, STATIC, 3, INT, INT, LOAD, 0, STORE, 1, LOAD, 0, STORE, 2, LOAD, 0, CALL, 1, LOAD, 1, ADD, 0, LOAD, 2, ADD, 0, RETURN, 0);
        sealed(x);
        expect.due("six methods under way, each with its own local 0", x.run(0, 0, 5), 15);
        expect.due("four values here and four in the called one", x.run(2, 0, 0), 607);
        expect.due("the called one changes no locals here", x.run(3, 0, 1000), 2007);
    }

    private static void addWraps() {
        expect.sentence("3 ADD .. INT x, INT y -> INT x + y .. (they wrap)");
        for (int y : INTS) {
            TamedClassSet set = ofInt(LOAD, 0, PUSH, y, ADD, 0, RETURN, 0);
            for (int x : INTS) {
                long sum = (long) x + y;
                long due = sum > MOST ? sum - (1L << 32) : sum < LEAST ? sum + (1L << 32) : sum;
                expect.due(x + " + " + y, set.run(0, 0, x), due);
            }
        }
    }

    private static void subWraps() {
        expect.sentence("4 SUB: INT x, INT y -> .. x - y (they wrap)");
        for (int y : INTS) {
            TamedClassSet set = ofInt(LOAD, 0, PUSH, y, SUB, 0, RETURN, 0);
            for (int x : INTS) {
                long rest = (long) x - y;
                long due = rest > MOST ? rest - (1L << 32) : rest < LEAST ? rest + (1L << 32) : rest;
                expect.due(x + " - " + y, set.run(0, 0, x), due);
            }
        }
    }

    private static void absolute() {
        expect.sentence("0 the absolute value (of -2^31 itself)");
        TamedClassSet set = ofInt(LOAD, 0, LIBRARY, 0, RETURN, 0);
        expect.due("of -2^31", set.run(0, 0, LEAST), LEAST);
        expect.due("of -2^31 + 1", set.run(0, 0, LEAST + 1), MOST);
        expect.due("of 2^31 - 1", set.run(0, 0, MOST), MOST);
        for (int x = -3; x <= 3; x++) expect.due("of " + x, set.run(0, 0, x), x < 0 ? -x : x);
    }

    private static void bits() {
        expect.sentence("1 how many bits are set");
        TamedClassSet set = ofInt(LOAD, 0, LIBRARY, 1, RETURN, 0);
        int[][] due = {{0, 0}, {1, 1}, {-1, 32}, {LEAST, 1}, {MOST, 31}, {-2, 31}, {65536, 1}, {0x55555555, 16}, {7, 3}};
        for (int[] pair : due) expect.due("of " + pair[0], set.run(0, 0, pair[0]), pair[1]);
    }

    private static void zero() {
        expect.sentence("6 ZERO: INT x -> , a comes next if x is 0");
        TamedClassSet set = ofInt(LOAD, 0, ZERO, 4, PUSH, 10, RETURN, 0, PUSH, 20, RETURN, 0);
        for (int x : INTS) expect.due("ZERO of " + x, set.run(0, 0, x), x == 0 ? 20 : 10);
    }

    /** Of classes without own fields, with one, and with four, which is as many as the stack has values. */
    private static void ownFieldsMade() {
        expect.sentence("7 MAKE: one value for each of class a's own fields, each fitting its type -> a new object of class a with these in its fields");
        TamedClassSet x = new TamedClassSet();
        for (int c = 0; c < 8; c++) x.addClass(c == 7 ? 6 : -1, 0);
        int[] classes = {5, 5, 5, 5, 5, 1, 7, 6, 6, 4, 4, 7};
        for (int cls : classes) x.addField(cls, 0, INT);
        method(x, 0, STATIC, 0, -1, type(0), MAKE, 0, RETURN, 0);
        method(x, 0, STATIC, 1, -1, type(1), PUSH, 9, MAKE, 1, RETURN, 0);
        method(x, 0, STATIC, 2, -1, type(7), PUSH, 1, PUSH, 2, PUSH, 3, PUSH, 4, MAKE, 7, RETURN, 0);
        method(x, 0, STATIC, 3, -1, type(6), PUSH, 5, PUSH, 6, PUSH, 7, PUSH, 8, MAKE, 6, RETURN, 0);
        expect.due("MAKE at four values", x.check(), 0);
        for (int m = 0; m < 4; m++) expect.due("object " + m, x.run(m, 0, 0), OBJECT + m);
        int[] due = {6, 1, 7, 2, 8, 3, 11, 4};
        for (int k = 0; k < due.length; k += 2) expect.due("the child's field " + due[k], x.look(2, due[k]), due[k + 1]);
        expect.due("one field", x.look(1, 5), 9);
        expect.due("the parent's field 7", x.look(3, 7), 7);
        expect.due("the parent's field 8", x.look(3, 8), 8);
        for (int f = 0; f < 12; f++) expect.due("no fields", x.look(0, f), REFUSED);
    }

    private static void staticFieldsGot() {
        expect.sentence("10 GETS: -> the value of the static field a (0 or null)");
        TamedClassSet x = new TamedClassSet();
        for (int c = 0; c < 8; c++) x.addClass(-1, 2);
        for (int f = 0; f < 12; f++) x.addField(f % 8, STATIC + FINAL, f < 10 && f != 1 ? f : 0);
        method(x, 0, STATIC, 0, -1, INT, GETS, 0, GETS, 11, ADD, 0, RETURN, 0);
        method(x, 0, STATIC, 1, -1, type(0), GETS, 2, RETURN, 0);
        method(x, 0, STATIC, 2, -1, type(7), GETS, 9, RETURN, 0);
        sealed(x);
        expect.due("two ints", x.run(0, 0, 0), 0);
        expect.due("an object of class 0", x.run(1, 0, 0), NULL);
        expect.due("an object of class 7", x.run(2, 0, 0), NULL);
        expect.due("null takes no handle", x.held(0), TamedClassSet.BAD);
    }

    private static void same() {
        expect.sentence("16 SAME: two values that are not INT -> INT 1 if they are the same object or both null, else 0");
        TamedClassSet x = plain();
        x.addField(0, 0, INT);
        method(x, 0, 0, 0, type(0), INT, LOAD, 0, LOAD, 1, SAME, 0, RETURN, 0);
        method(x, 0, STATIC, 1, type(0), INT, LOAD, 0, NUL, 0, SAME, 0, RETURN, 0);
        method(x, 0, STATIC, 2, CELL_TYPE, INT, LOAD, 0, NUL, 0, SAME, 0, RETURN, 0);
        method(x, 0, STATIC, 3, CELL_TYPE, INT, LOAD, 0, PUSH, 0, CELL, 0, SAME, 0, RETURN, 0);
        method(x, 0, STATIC, 4, INT, type(0), LOAD, 0, MAKE, 0, RETURN, 0);
        method(x, 0, STATIC, 5, INT, CELL_TYPE, LOAD, 0, CELL, 0, RETURN, 0);
        sealed(x);
        expect.due("an object", x.run(4, 0, 0), OBJECT);
        expect.due("another that is like it", x.run(4, 0, 0), OBJECT + 1);
        expect.due("a cell", x.run(5, 0, 0), OBJECT + 2);
        expect.due("the same object", x.run(0, 0, 0), 1);
        expect.due("another one", x.run(0, 0, 1), 0);
        expect.due("an object and null", x.run(0, 0, -1), 0);
        expect.due("the same object, the second", x.run(0, 1, 1), 1);
        expect.due("null and null", x.run(1, 0, -1), 1);
        expect.due("a cell and null of a class", x.run(2, 0, 2), 0);
        expect.due("a null cell and null of a class", x.run(2, 0, -1), 1);
        expect.due("a cell and another with the same int", x.run(3, 0, 2), 0);
        expect.due("a null cell and a cell", x.run(3, 0, -1), 0);
    }

    private static void returned() {
        expect.sentence("19 RETURN: a value that fits the result; the method ends with it");
        TamedClassSet x = plain();
        x.addClass(0, 0);
        method(x, 0, STATIC, 0, -1, INT, PUSH, 1, PUSH, 2, PUSH, 3, PUSH, 4, RETURN, 0);
        method(x, 0, STATIC, 1, -1, INT, PUSH, 50, CALL, 0, ADD, 0, RETURN, 0);
        method(x, 0, STATIC, 2, INT, INT, LOAD, 0, ZERO, 4, PUSH, 10, RETURN, 0, PUSH, 20, RETURN, 0);
        method(x, 0, STATIC, 3, -1, type(0), MAKE, 0, MAKE, 1, RETURN, 0);
        sealed(x);
        expect.due("the topmost of four values", x.run(0, 0, 0), 4);
        expect.due("the caller finds that one alone", x.run(1, 0, 0), 54);
        expect.due("what stands behind is not done", x.run(2, 0, 1), 10);
        expect.due("steps()", x.steps(), 4);
        expect.due("a child as result", x.run(3, 0, 0), OBJECT);
        expect.due("it keeps its own class", x.held(0), type(1));
    }

    private static int nearest(int cls) {
        return cls >= 6 ? 6 : cls >= 3 ? 3 : 0;
    }

    /** Eight classes in one line; the classes 6, 3 and 0 have a method of the name 5, made in this order. */
    private static void chosen() {
        expect.sentence("A CALL of a method with a receiver (and a run of one) does the method of the same name of the first class in the line of the receiver's own class that has one.");
        TamedClassSet x = new TamedClassSet();
        for (int c = 0; c < 8; c++) x.addClass(c - 1, 0);
        for (int k = 0; k < 4; k++) method(x, 0, STATIC, k, INT, type(0), LOAD, 0, ZERO, 4, MAKE, 2 * k + 1, RETURN, 0, MAKE, 2 * k, RETURN, 0);
        for (int c = 6; c >= 0; c -= 3) method(x, c, 0, 5, -1, INT, PUSH, c, RETURN, 0);
        method(x, 0, STATIC, 4, type(0), INT, LOAD, 0, CALL, 6, RETURN, 0);
        sealed(x);
        for (int c = 0; c < 8; c++) expect.due("an object of class " + c, x.run(c / 2, 0, c % 2), OBJECT + c);
        for (int c = 0; c < 8; c++) {
            expect.due("run of class 0's on class " + c, x.run(6, c, 0), nearest(c));
            expect.due("CALL of class 0's on class " + c, x.run(7, 0, c), nearest(c));
            expect.due("run of class 3's on class " + c, x.run(5, c, 0), c >= 3 ? nearest(c) : REFUSED);
            expect.due("run of class 6's on class " + c, x.run(4, c, 0), c >= 6 ? 6 : REFUSED);
        }
    }

    private static void sixtyFifth() {
        expect.sentence("2 an instruction would be its 65th (those of called methods count)");
        for (int more = 0; more < 3; more++) {
            TamedClassSet x = plain();
            method(x, 0, STATIC, 0, INT, INT, COUNT);
            method(x, 0, STATIC, 1, INT, INT, PUSH, 8, CALL, 0);
            for (int k = 0; k < more; k++) code(x, 1, LIBRARY, 0);
            code(x, 1, RETURN, 0);
            sealed(x);
            expect.due("RETURN as instruction " + (63 + more), x.run(1, 0, 0), more < 2 ? 0 : FAULT + 2);
            expect.due("steps()", x.steps(), more < 2 ? 63 + more : 64);
        }
        TamedClassSet x = plain();
        method(x, 0, STATIC, 0, INT, INT, COUNT);
        method(x, 0, STATIC, 1, -1, INT, JUMP, 0);
        method(x, 0, STATIC, 2, CELL_TYPE, INT, LOAD, 0, PUSH, 8, CALL, 0, WRITE, 0, PUSH, 1, RETURN, 0);
        method(x, 0, STATIC, 3, CELL_TYPE, INT, LOAD, 0, PUSH, 8, CALL, 0, LIBRARY, 0, WRITE, 0, PUSH, 1, RETURN, 0);
        method(x, 0, STATIC, 4, -1, CELL_TYPE, PUSH, 5, CELL, 0, RETURN, 0);
        sealed(x);
        expect.due("60 in one method", x.run(0, 0, 8), 0);
        expect.due("67 in one method", x.run(0, 0, 9), FAULT + 2);
        expect.due("a count that is never 0", x.run(0, 0, -1), FAULT + 2);
        expect.due("an endless JUMP", x.run(1, 0, 0), FAULT + 2);
        expect.due("steps()", x.steps(), 64);
        expect.due("a cell that holds 5", x.run(4, 0, 0), OBJECT);
        expect.due("WRITE would be the 65th", x.run(3, 0, 0), FAULT + 2);
        expect.due("it was not done", x.look(0, 0), 5);
        expect.due("WRITE is the 64th", x.run(2, 0, 0), FAULT + 2);
        expect.due("it was done", x.look(0, 0), 0);
        expect.due("each run counts for itself", x.run(0, 0, 8), 0);
    }

    private static void nullFound() {
        expect.sentence("1 GET, PUT or CALL finds null as its object or receiver, or READ, WRITE null as a cell");
        TamedClassSet x = plain();
        x.addField(0, 0, INT);
        method(x, 0, STATIC, 0, type(0), INT, LOAD, 0, GET, 0, RETURN, 0);
        method(x, 0, STATIC, 1, type(0), INT, LOAD, 0, PUSH, 3, PUT, 0, PUSH, 3, RETURN, 0);
        method(x, 0, STATIC, 2, type(0), INT, LOAD, 0, LOAD, 0, CALL, 5, RETURN, 0);
        method(x, 0, STATIC, 3, CELL_TYPE, INT, LOAD, 0, READ, 0, RETURN, 0);
        method(x, 0, STATIC, 4, CELL_TYPE, INT, LOAD, 0, PUSH, 3, WRITE, 0, PUSH, 3, RETURN, 0);
        method(x, 0, 0, 5, type(0), INT, PUSH, 3, RETURN, 0);
        method(x, 0, STATIC, 6, -1, type(0), PUSH, 3, MAKE, 0, RETURN, 0);
        method(x, 0, STATIC, 7, -1, CELL_TYPE, PUSH, 3, CELL, 0, RETURN, 0);
        sealed(x);
        expect.due("an object", x.run(6, 0, 0), OBJECT);
        expect.due("a cell", x.run(7, 0, 0), OBJECT + 1);
        int[] stepsDue = {2, 3, 3, 2, 3};
        for (int m = 0; m < 5; m++) {
            expect.due("null for method " + m, x.run(m, 0, -1), FAULT + 1);
            expect.due("steps()", x.steps(), stepsDue[m]);
            expect.due("no null for method " + m, x.run(m, 0, m < 3 ? 0 : 1), 3);
        }
        expect.due("null as the argument of a CALL is none", x.run(5, 0, -1), 3);
    }

    private static void seventh() {
        expect.sentence("3 CALL would put a seventh method under way");
        TamedClassSet x = plain();
        for (int m = 0; m < 7; m++) {
            if (m < 6) method(x, 0, STATIC, m, -1, INT, CALL, m + 1, RETURN, 0);
            else method(x, 0, STATIC, m, -1, INT, PUSH, 31, RETURN, 0);
        }
        method(x, 0, STATIC, 7, -1, INT, CALL, 5, CALL, 5, ADD, 0, CALL, 4, ADD, 0, CALL, 3, ADD, 0, RETURN, 0);
        sealed(x);
        expect.due("seven methods", x.run(0, 0, 0), FAULT + 3);
        expect.due("the sixth CALL faults", x.steps(), 6);
        expect.due("six methods", x.run(1, 0, 0), 31);
        expect.due("five CALLs, and seven instructions besides", x.steps(), 12);
        expect.due("methods that ended are not under way", x.run(7, 0, 0), 124);
        x = plain();
        method(x, 0, 0, 0, INT, INT, LOAD, 1, ZERO, 8, LOAD, 0, LOAD, 1, PUSH, 1, SUB, 0, CALL, 0, RETURN, 0, PUSH, 6, RETURN, 0);
        method(x, 0, STATIC, 1, -1, type(0), MAKE, 0, RETURN, 0);
        sealed(x);
        x.run(1, 0, 0);
        expect.due("six with a receiver", x.run(0, 0, 5), 6);
        expect.due("seven with a receiver", x.run(0, 0, 6), FAULT + 3);
        expect.due("steps()", x.steps(), 42);
        expect.due("six again", x.run(0, 0, 5), 6);
    }

    /** Method 0 makes four objects, method 1 four cells. */
    private static TamedClassSet makers() {
        TamedClassSet x = plain();
        method(x, 0, STATIC, 0, -1, type(0), MAKE, 0, MAKE, 0, MAKE, 0, MAKE, 0, RETURN, 0);
        method(x, 0, STATIC, 1, -1, CELL_TYPE, PUSH, 1, CELL, 0, STORE, 0, PUSH, 1, CELL, 0, STORE, 0, PUSH, 1, CELL, 0, STORE, 0, PUSH, 1, CELL, 0, RETURN, 0);
        return x;
    }

    private static void ninth() {
        expect.sentence("4 MAKE or CELL would make its ninth object or cell");
        TamedClassSet x = makers();
        method(x, 0, STATIC, 2, -1, type(0), CALL, 0, CALL, 0, RETURN, 0);
        method(x, 0, STATIC, 3, -1, type(0), CALL, 0, CALL, 0, MAKE, 0, RETURN, 0);
        method(x, 0, STATIC, 4, -1, CELL_TYPE, CALL, 1, CALL, 1, RETURN, 0);
        method(x, 0, STATIC, 5, -1, CELL_TYPE, CALL, 1, CALL, 1, PUSH, 1, CELL, 0, RETURN, 0);
        method(x, 0, STATIC, 6, -1, CELL_TYPE, CALL, 0, CALL, 1, RETURN, 0);
        method(x, 0, STATIC, 7, INT, type(0), CALL, 0, CALL, 1, LOAD, 0, ZERO, 6, MAKE, 0, RETURN, 0, PUSH, 1, CELL, 0, JUMP, 8);
        sealed(x);
        expect.due("eight objects", x.run(2, 0, 0), OBJECT);
        expect.due("nine objects", x.run(3, 0, 0), FAULT + 4);
        expect.due("steps()", x.steps(), 13);
        expect.due("eight cells", x.run(4, 0, 0), OBJECT + 1);
        expect.due("nine cells", x.run(5, 0, 0), FAULT + 4);
        expect.due("steps()", x.steps(), 28);
        expect.due("four objects and four cells", x.run(6, 0, 0), OBJECT + 2);
        expect.due("an object more", x.run(7, 0, 1), FAULT + 4);
        expect.due("steps()", x.steps(), 22);
        expect.due("a cell more", x.run(7, 0, 0), FAULT + 4);
        expect.due("steps()", x.steps(), 23);
        expect.due("each run counts for itself", x.run(2, 0, 0), OBJECT + 3);
    }

    /** The code told is behind 62 steps, or with a value below behind 63: its fault lies at the 64th or at the 65th. */
    private static void atTheEnd(String what, int param, boolean late, int... code) {
        TamedClassSet x = plain();
        x.addField(0, 0, INT);
        method(x, 0, STATIC, 0, INT, INT, COUNT);
        method(x, 0, 0, 1, INT, INT, LOAD, 1, RETURN, 0);
        method(x, 0, 0, 2, -1, INT, PUSH, 1, RETURN, 0);
        method(x, 0, STATIC, 3, param, INT, code);
        sealed(x);
        expect.due(what + (late ? " as the 65th" : " as the 64th"), x.run(3, 0, -1), late ? FAULT + 2 : FAULT + 1);
        expect.due("steps()", x.steps(), 64);
    }

    private static void stepsBeforeNull() {
        expect.sentence("(At one instruction 2 is tested first, then the others in the order told.): 2 before 1");
        int[][] takeOne = {{GET, 0, type(0)}, {CALL, 2, type(0)}, {READ, 0, CELL_TYPE}};
        for (int[] op : takeOne) {
            atTheEnd("op " + op[0], op[2], false, PUSH, 8, CALL, 0, LOAD, 0, op[0], op[1], RETURN, 0);
            atTheEnd("op " + op[0], op[2], true, PUSH, 8, CALL, 0, LIBRARY, 0, LOAD, 0, op[0], op[1], RETURN, 0);
        }
        int[][] takeTwo = {{PUT, 0, type(0)}, {CALL, 1, type(0)}, {WRITE, 0, CELL_TYPE}};
        for (int[] op : takeTwo) {
            atTheEnd("op " + op[0], op[2], false, LOAD, 0, PUSH, 8, CALL, 0, op[0], op[1], PUSH, 1, RETURN, 0);
            atTheEnd("op " + op[0], op[2], true, LOAD, 0, PUSH, 8, CALL, 0, LIBRARY, 0, op[0], op[1], PUSH, 1, RETURN, 0);
        }
    }

    /** Method 1 calls itself without end; the CALL of a seventh lies 11 steps behind the CALL of method 1. */
    private static void stepsBeforeSeventh() {
        expect.sentence("(At one instruction 2 is tested first, then the others in the order told.): 2 before 3");
        for (int more = 4; more <= 7; more++) {
            TamedClassSet x = plain();
            method(x, 0, STATIC, 0, INT, INT, COUNT);
            method(x, 0, STATIC, 1, INT, INT, LOAD, 0, CALL, 1, RETURN, 0);
            method(x, 0, STATIC, 2, -1, INT, PUSH, 6, CALL, 0);
            for (int k = 0; k < more; k++) code(x, 2, LIBRARY, 0);
            code(x, 2, CALL, 1, RETURN, 0);
            sealed(x);
            expect.due("the seventh by instruction " + (59 + more), x.run(2, 0, 0), more <= 5 ? FAULT + 3 : FAULT + 2);
            expect.due("steps()", x.steps(), more <= 5 ? 59 + more : 64);
        }
    }

    private static void stepsBeforeNinth() {
        expect.sentence("(At one instruction 2 is tested first, then the others in the order told.): 2 before 4");
        int[] makes = {MAKE, CELL};
        for (int make : makes) {
            for (int more = 2; more <= 5; more++) {
                TamedClassSet x = makers();
                method(x, 0, STATIC, 2, INT, INT, COUNT);
                method(x, 0, STATIC, 3, -1, INT, CALL, 0, CALL, 0, PUSH, 6, CALL, 2);
                for (int k = 0; k < more; k++) code(x, 3, LIBRARY, 0);
                code(x, 3, make, 0, JUMP, 5 + more);
                sealed(x);
                expect.due("the ninth by instruction " + (61 + more), x.run(3, 0, 0), more <= 3 ? FAULT + 4 : FAULT + 2);
                expect.due("steps()", x.steps(), more <= 3 ? 61 + more : 64);
            }
        }
    }

    /** Five static methods call one another, the sixth calls one with a receiver. */
    private static void nullBeforeSeventh() {
        expect.sentence("(At one instruction 2 is tested first, then the others in the order told.): 1 before 3");
        for (int isNull = 0; isNull < 2; isNull++) {
            TamedClassSet x = plain();
            for (int m = 0; m < 5; m++) method(x, 0, STATIC, m, -1, INT, CALL, m + 1, RETURN, 0);
            method(x, 0, STATIC, 5, -1, INT, isNull == 1 ? NUL : MAKE, 0, CALL, 6, RETURN, 0);
            method(x, 0, 0, 6, -1, INT, PUSH, 17, RETURN, 0);
            sealed(x);
            expect.due("the receiver of a seventh is " + (isNull == 1 ? "null" : "an object"), x.run(0, 0, 0), isNull == 1 ? FAULT + 1 : FAULT + 3);
            expect.due("steps()", x.steps(), 7);
            expect.due("of a sixth", x.run(1, 0, 0), isNull == 1 ? FAULT + 1 : 17);
        }
    }

    /** Method 1 changes a field and a cell; methods 2 to 5 call it and come to the faults 1 to 4. */
    private static void changesStay() {
        expect.sentence("What was changed before stays changed.");
        TamedClassSet x = plain();
        x.addField(0, 0, CELL_TYPE);
        x.addField(0, 0, INT);
        method(x, 0, STATIC, 0, INT, type(0), LOAD, 0, CELL, 0, LOAD, 0, MAKE, 0, RETURN, 0);
        method(x, 0, 0, 1, INT, INT, LOAD, 0, LOAD, 1, PUT, 1, LOAD, 0, GET, 0, LOAD, 1, WRITE, 0, PUSH, 0, RETURN, 0);
        method(x, 0, 0, 2, INT, INT, LOAD, 0, LOAD, 1, CALL, 1, NUL, 0, GET, 1, RETURN, 0);
        method(x, 0, 0, 3, INT, INT, LOAD, 0, LOAD, 1, CALL, 1, JUMP, 3);
        method(x, 0, 0, 4, INT, INT, LOAD, 0, LOAD, 1, CALL, 1, CALL, 7, RETURN, 0);
        method(x, 0, 0, 5, INT, INT, LOAD, 0, LOAD, 1, CALL, 1, CELL, 0, STORE, 2, PUSH, 1, CELL, 0, STORE, 2, JUMP, 5);
        method(x, 0, 0, 6, -1, CELL_TYPE, LOAD, 0, GET, 0, RETURN, 0);
        method(x, 0, STATIC, 7, -1, INT, CALL, 7, RETURN, 0);
        sealed(x);
        expect.due("an object", x.run(0, 0, 5), OBJECT);
        expect.due("its cell", x.run(6, 0, 0), OBJECT + 1);
        for (int fault = 1; fault <= 4; fault++) {
            expect.due("a fault", x.run(1 + fault, 0, 100 + fault), FAULT + fault);
            expect.due("the field stays changed", x.look(0, 1), 100 + fault);
            expect.due("the cell stays changed", x.look(1, 0), 100 + fault);
            expect.due("nothing more is held", x.held(2), TamedClassSet.BAD);
        }
    }
}
