/** Promises 9, 12 and 13: run, runs, steps. */
public final class RunTest extends Sets {
    private static final long NULL = TamedClassSet.NULL, OBJECT = TamedClassSet.OBJECT, FAULT = TamedClassSet.FAULT,
            UNHELD = TamedClassSet.UNHELD, REFUSED = TamedClassSet.REFUSED;
    private static final int LEAST = Integer.MIN_VALUE, MOST = Integer.MAX_VALUE;
    private static final Expect expect = new Expect();

    public static void main(String[] args) {
        arithmetic();
        libraryFunctions();
        branches();
        staticFields();
        sames();
        fieldsInOrder();
        choosing();
        receiversAndArguments();
        stepLimit();
        nullFaults();
        depthLimit();
        makeLimit();
        faultOrder();
        changesStay();
        allHandles();
        fortyRuns();
        expect.end();
    }

    private static void sealed(TamedClassSet x) {
        expect.due("check()", x.check(), 0);
    }

    private static long intOf(int argument, int... code) {
        TamedClassSet x = plain();
        method(x, 0, STATIC, 0, INT, INT, code);
        sealed(x);
        return x.run(0, 99, argument);
    }

    private static void arithmetic() {
        expect.due("PUSH", intOf(0, PUSH, LEAST, RETURN, 0), LEAST);
        expect.due("x + y", intOf(5, LOAD, 0, PUSH, 7, ADD, 0, RETURN, 0), 12);
        expect.due("x - y", intOf(5, LOAD, 0, PUSH, 7, SUB, 0, RETURN, 0), -2);
        expect.due("ADD wraps", intOf(MOST, LOAD, 0, PUSH, 1, ADD, 0, RETURN, 0), LEAST);
        expect.due("SUB wraps", intOf(LEAST, LOAD, 0, PUSH, 1, SUB, 0, RETURN, 0), MOST);
        expect.due("-1 as an int argument", intOf(-1, LOAD, 0, RETURN, 0), -1);
        expect.due("STORE and LOAD", intOf(3, LOAD, 0, PUSH, 9, STORE, 0, LOAD, 0, SUB, 0, RETURN, 0), -6);
        expect.due("the topmost value is the result", intOf(3, LOAD, 0, PUSH, 9, RETURN, 0), 9);
    }

    private static void libraryFunctions() {
        int[] xs = {0, 5, -5, MOST, LEAST, -1};
        for (int x : xs) {
            expect.due("absolute of " + x, intOf(x, LOAD, 0, LIBRARY, 0, RETURN, 0), x == LEAST ? LEAST : x < 0 ? -x : x);
            int bits = 0;
            for (int k = 0; k < 32; k++) bits += x >>> k & 1;
            expect.due("bits of " + x, intOf(x, LOAD, 0, LIBRARY, 1, RETURN, 0), bits);
        }
    }

    private static void branches() {
        int[] code = {LOAD, 0, ZERO, 4, PUSH, 10, RETURN, 0, PUSH, 20, RETURN, 0};
        expect.due("ZERO of 0", intOf(0, code), 20);
        expect.due("ZERO of 1", intOf(1, code), 10);
        expect.due("ZERO of -1", intOf(-1, code), 10);
        expect.due("JUMP", intOf(0, JUMP, 3, RETURN, 0, JUMP, 1, PUSH, 6, JUMP, 2), 6);
    }

    private static void staticFields() {
        TamedClassSet x = new TamedClassSet();
        x.addClass(-1, 2);
        x.addField(0, STATIC + FINAL, INT);
        x.addField(0, STATIC + FINAL, type(0));
        method(x, 0, STATIC, 0, -1, INT, GETS, 0, RETURN, 0);
        method(x, 0, STATIC, 1, -1, type(0), GETS, 1, RETURN, 0);
        sealed(x);
        expect.due("a static int is 0", x.run(0, 0, 0), 0);
        expect.due("a static object is null", x.run(1, 0, 0), NULL);
        expect.due("null is in no handle", x.held(0), TamedClassSet.BAD);
    }

    private static void sames() {
        TamedClassSet x = plain();
        method(x, 0, STATIC, 0, CELL_TYPE, INT, LOAD, 0, LOAD, 0, SAME, 0, RETURN, 0);
        method(x, 0, STATIC, 1, CELL_TYPE, INT, LOAD, 0, PUSH, 4, CELL, 0, SAME, 0, RETURN, 0);
        method(x, 0, STATIC, 2, CELL_TYPE, INT, LOAD, 0, NUL, 0, SAME, 0, RETURN, 0);
        method(x, 0, STATIC, 3, -1, CELL_TYPE, PUSH, 4, CELL, 0, RETURN, 0);
        method(x, 0, STATIC, 4, -1, INT, MAKE, 0, MAKE, 0, SAME, 0, RETURN, 0);
        sealed(x);
        expect.due("a cell", x.run(3, 0, 0), OBJECT);
        expect.due("the same cell", x.run(0, 0, 0), 1);
        expect.due("a null cell twice", x.run(0, 0, -1), 1);
        expect.due("another cell with the same int", x.run(1, 0, 0), 0);
        expect.due("a null cell and a cell", x.run(1, 0, -1), 0);
        expect.due("a cell and a null object", x.run(2, 0, 0), 0);
        expect.due("a null cell and a null object", x.run(2, 0, -1), 1);
        expect.due("two new objects", x.run(4, 0, 0), 0);
    }

    /** The child's field 0 stands before the parent's field 1, and the static field 2 between 1 and 3. */
    private static void fieldsInOrder() {
        TamedClassSet x = new TamedClassSet();
        x.addClass(-1, 0);
        x.addClass(0, 0);
        x.addField(1, 0, INT);
        x.addField(0, 0, INT);
        x.addField(0, STATIC + FINAL, INT);
        x.addField(0, 0, INT);
        method(x, 0, STATIC, 0, -1, type(0), PUSH, 10, PUSH, 20, PUSH, 30, MAKE, 1, RETURN, 0);
        method(x, 0, STATIC, 1, -1, type(0), PUSH, 40, PUSH, 50, MAKE, 0, RETURN, 0);
        method(x, 0, 0, 2, -1, INT, LOAD, 0, GET, 1, RETURN, 0);
        method(x, 0, 0, 3, INT, INT, LOAD, 0, LOAD, 1, PUT, 1, LOAD, 0, GET, 3, RETURN, 0);
        sealed(x);
        expect.due("a child", x.run(0, 0, 0), OBJECT);
        expect.due("a parent", x.run(1, 0, 0), OBJECT + 1);
        expect.due("the child's field 1", x.run(2, 0, 0), 20);
        expect.due("the parent's field 1", x.run(2, 1, 0), 40);
        expect.due("PUT into the child, its field 3", x.run(3, 0, 7), 30);
        expect.due("PUT into the parent, its field 3", x.run(3, 1, 8), 50);
        expect.due("the child's field 1 now", x.run(2, 0, 0), 7);
        expect.due("the parent's field 1 now", x.run(2, 1, 0), 8);
        expect.due("the child's field 0 is as it was", x.look(0, 0), 10);
    }

    /** Classes 0 <- 1 <- 2, 0 <- 3; the name 0 in 0 and 1, the name 1 in 2 and 0, in this order of numbers. */
    private static void choosing() {
        TamedClassSet x = new TamedClassSet();
        x.addClass(-1, 0);
        x.addClass(0, 0);
        x.addClass(1, 0);
        x.addClass(0, 0);
        method(x, 1, 0, 0, INT, INT, PUSH, 100, LOAD, 1, ADD, 0, RETURN, 0);
        method(x, 0, 0, 0, INT, INT, LOAD, 1, RETURN, 0);
        method(x, 2, 0, 1, -1, INT, LOAD, 0, PUSH, 5, CALL, 1, RETURN, 0);
        method(x, 0, 0, 1, -1, INT, PUSH, 77, RETURN, 0);
        method(x, 0, STATIC, 2, INT, type(0), LOAD, 0, ZERO, 4, MAKE, 2, RETURN, 0, MAKE, 3, RETURN, 0);
        method(x, 0, STATIC, 3, type(0), INT, LOAD, 0, CALL, 3, RETURN, 0);
        sealed(x);
        expect.due("an object of class 2", x.run(4, 0, 1), OBJECT);
        expect.due("an object of class 3", x.run(4, 0, 0), OBJECT + 1);
        expect.due("run of 0's name 0 on class 2", x.run(1, 0, 4), 104);
        expect.due("run of 0's name 0 on class 3", x.run(1, 1, 4), 4);
        expect.due("run of 1's name 0 on class 2", x.run(0, 0, 4), 104);
        expect.due("run of 1's name 0 on class 3", x.run(0, 1, 4), REFUSED);
        expect.due("CALL of 0's name 1 on class 2", x.run(5, 0, 0), 105);
        expect.due("CALL of 0's name 1 on class 3", x.run(5, 0, 1), 77);
        expect.due("run of 2's name 1 on class 2", x.run(2, 0, 0), 105);
    }

    private static void receiversAndArguments() {
        TamedClassSet x = new TamedClassSet();
        x.addClass(-1, 0);
        x.addClass(0, 0);
        x.addClass(-1, 0);
        method(x, 0, STATIC, 0, -1, type(0), MAKE, 0, RETURN, 0);
        method(x, 0, STATIC, 1, -1, type(1), MAKE, 1, RETURN, 0);
        method(x, 0, STATIC, 2, -1, type(2), MAKE, 2, RETURN, 0);
        method(x, 0, STATIC, 3, -1, CELL_TYPE, PUSH, 3, CELL, 0, RETURN, 0);
        method(x, 0, 0, 4, type(0), type(0), LOAD, 1, RETURN, 0);
        method(x, 0, STATIC, 5, CELL_TYPE, CELL_TYPE, LOAD, 0, RETURN, 0);
        method(x, 1, STATIC, 6, type(1), type(0), LOAD, 0, RETURN, 0);
        expect.due("not sealed", x.run(0, 0, 0), REFUSED);
        sealed(x);
        for (int h = 0; h < 4; h++) expect.due("handle " + h, x.run(h, LEAST, MOST), OBJECT + h);
        int[] noMethod = {-1, 7, 8, LEAST, MOST};
        for (int m : noMethod) expect.due("run(" + m + ", 0, 0)", x.run(m, 0, 0), REFUSED);
        int[] noReceiver = {-1, 2, 3, 4, 15, 16, LEAST, MOST};
        for (int r : noReceiver) expect.due("receiver " + r, x.run(4, r, 0), REFUSED);
        expect.due("a receiver and itself", x.run(4, 0, 0), OBJECT);
        expect.due("a child as receiver and argument", x.run(4, 1, 1), OBJECT + 1);
        expect.due("null as argument", x.run(4, 1, -1), NULL);
        int[] noArgument = {-2, 2, 3, 4, 15, 16, LEAST, MOST};
        for (int a : noArgument) expect.due("argument " + a, x.run(4, 0, a), REFUSED);
        expect.due("a cell as argument", x.run(5, 0, 3), OBJECT + 3);
        expect.due("null as a cell", x.run(5, 0, -1), NULL);
        expect.due("an object for a cell", x.run(5, 0, 0), REFUSED);
        expect.due("the parent for a child", x.run(6, 0, 0), REFUSED);
        expect.due("a child", x.run(6, 0, 1), OBJECT + 1);
        expect.due("runs() counts no refused ones", x.runs(), 10);
        expect.due("steps() of the latest one made", x.steps(), 2);
    }

    /** A loop: an argument of n does 7 * n + 4 instructions. */
    private static void stepLimit() {
        TamedClassSet x = plain();
        method(x, 0, STATIC, 0, INT, INT, LOAD, 0, ZERO, 7, LOAD, 0, PUSH, 1, SUB, 0, STORE, 0, JUMP, 0, LOAD, 0, RETURN, 0);
        method(x, 0, STATIC, 1, INT, INT, LOAD, 0, LIBRARY, 0, LIBRARY, 0, LIBRARY, 0, CALL, 0, RETURN, 0);
        method(x, 0, STATIC, 2, INT, INT, LOAD, 0, LIBRARY, 0, LIBRARY, 0, CALL, 0, RETURN, 0);
        sealed(x);
        expect.due("steps() before any run", x.steps(), TamedClassSet.BAD);
        expect.due("0 rounds", x.run(0, 0, 0), 0);
        expect.due("steps()", x.steps(), 4);
        expect.due("8 rounds", x.run(0, 0, 8), 0);
        expect.due("steps()", x.steps(), 60);
        expect.due("9 rounds", x.run(0, 0, 9), FAULT + 2);
        expect.due("steps()", x.steps(), 64);
        expect.due("the 65th in the caller", x.run(1, 0, 8), FAULT + 2);
        expect.due("steps()", x.steps(), 64);
        expect.due("just one less: its 65th is RETURN", x.run(2, 0, 8), FAULT + 2);
        expect.due("steps()", x.steps(), 64);
        expect.due("runs()", x.runs(), 5);
        x = plain();
        method(x, 0, STATIC, 0, INT, INT, LOAD, 0, ZERO, 7, LOAD, 0, PUSH, 1, SUB, 0, STORE, 0, JUMP, 0, LOAD, 0, RETURN, 0);
        method(x, 0, STATIC, 1, INT, INT, LOAD, 0, LIBRARY, 0, CALL, 0, RETURN, 0);
        sealed(x);
        expect.due("64 are enough", x.run(1, 0, 8), 0);
        expect.due("steps()", x.steps(), 64);
        expect.due("refused", x.run(2, 0, 0), REFUSED);
        expect.due("steps() of the latest run", x.steps(), 64);
        expect.due("runs()", x.runs(), 1);
    }

    private static void nullFaults() {
        TamedClassSet x = plain();
        x.addField(0, 0, INT);
        method(x, 0, STATIC, 0, type(0), INT, LOAD, 0, GET, 0, RETURN, 0);
        method(x, 0, STATIC, 1, type(0), INT, PUSH, 0, LOAD, 0, PUSH, 1, PUT, 0, RETURN, 0);
        method(x, 0, STATIC, 2, type(0), INT, PUSH, 0, LOAD, 0, CALL, 5, RETURN, 0);
        method(x, 0, STATIC, 3, CELL_TYPE, INT, LOAD, 0, READ, 0, RETURN, 0);
        method(x, 0, STATIC, 4, CELL_TYPE, INT, PUSH, 0, LOAD, 0, PUSH, 1, WRITE, 0, RETURN, 0);
        method(x, 0, 0, 5, -1, INT, PUSH, 6, RETURN, 0);
        sealed(x);
        int[] stepsDue = {2, 4, 3, 2, 4};
        for (int m = 0; m < 5; m++) {
            expect.due("null for method " + m, x.run(m, 0, -1), FAULT + 1);
            expect.due("steps() with the one that faulted", x.steps(), stepsDue[m]);
            expect.due("faulted runs count", x.runs(), m + 1);
        }
    }

    private static void depthLimit() {
        TamedClassSet x = plain();
        method(x, 0, STATIC, 0, INT, INT, LOAD, 0, ZERO, 7, LOAD, 0, PUSH, 1, SUB, 0, CALL, 0, RETURN, 0, LOAD, 0, RETURN, 0);
        sealed(x);
        expect.due("six methods under way", x.run(0, 0, 5), 0);
        expect.due("steps()", x.steps(), 39);
        expect.due("a seventh", x.run(0, 0, 6), FAULT + 3);
        expect.due("steps()", x.steps(), 36);
        x = plain();
        method(x, 0, STATIC, 0, -1, INT, PUSH, 1, RETURN, 0);
        method(x, 0, STATIC, 1, -1, INT, CALL, 0, CALL, 0, ADD, 0, CALL, 0, CALL, 0, ADD, 0, CALL, 0, CALL, 0, ADD, 0, RETURN, 0);
        sealed(x);
        expect.due("ended ones are not under way", x.run(1, 0, 0), 2);
        expect.due("steps()", x.steps(), 22);
    }

    private static void makeLimit() {
        TamedClassSet x = plain();
        method(x, 0, STATIC, 0, INT, INT, MAKE, 0, STORE, 1, LOAD, 0, CELL, 0, STORE, 2, CALL, 1, RETURN, 0);
        method(x, 0, STATIC, 1, -1, INT, PUSH, 1, CELL, 0, STORE, 0, PUSH, 1, CELL, 0, MAKE, 0, MAKE, 0, CALL, 2, RETURN, 0);
        method(x, 0, STATIC, 2, -1, INT, MAKE, 0, MAKE, 0, PUSH, 5, RETURN, 0);
        method(x, 0, STATIC, 3, -1, INT, MAKE, 0, CALL, 4, RETURN, 0);
        method(x, 0, STATIC, 4, -1, INT, PUSH, 2, CALL, 0, RETURN, 0);
        method(x, 0, STATIC, 5, -1, INT, CALL, 1, PUSH, 1, CELL, 0, STORE, 0, PUSH, 1, CELL, 0, STORE, 0, PUSH, 1, CELL, 0, STORE, 0, RETURN, 0);
        sealed(x);
        expect.due("eight", x.run(0, 0, 0), 5);
        expect.due("a ninth is an object", x.run(3, 0, 0), FAULT + 4);
        expect.due("eight again", x.run(0, 0, 0), 5);
        expect.due("a ninth is a cell", x.run(5, 0, 0), FAULT + 4);
        expect.due("steps()", x.steps(), 22);
    }

    /** At the 65th instruction 2 is told, whatever else is wrong there; null before too deep. */
    private static void faultOrder() {
        TamedClassSet x;
        int[] count = {LOAD, 0, ZERO, 7, LOAD, 0, PUSH, 1, SUB, 0, STORE, 0, JUMP, 0};
        int[] pads = {0, 1};
        for (int pad : pads) {
            x = plain();
            x.addField(0, 0, INT);
            method(x, 0, STATIC, 0, INT, INT, count);
            code(x, 0, NUL, 0);
            if (pad == 1) code(x, 0, STORE, 1, LOAD, 1);
            code(x, 0, GET, 0, RETURN, 0);
            method(x, 0, STATIC, 1, INT, INT, LOAD, 0, LIBRARY, 0, CALL, 0, RETURN, 0);
            sealed(x);
            expect.due("null at " + (63 + 2 * pad), x.run(1, 0, 8), pad == 0 ? FAULT + 1 : FAULT + 2);
            expect.due("steps()", x.steps(), pad == 0 ? 63 : 64);
        }
        x = plain();
        method(x, 0, 0, 0, INT, INT, LOAD, 1, ZERO, 8, LOAD, 0, LOAD, 1, PUSH, 1, SUB, 0, CALL, 0, RETURN, 0, NUL, 0, LOAD, 1, CALL, 0, RETURN, 0);
        method(x, 0, STATIC, 1, -1, type(0), MAKE, 0, RETURN, 0);
        sealed(x);
        x.run(1, 0, 0);
        expect.due("null as the receiver of a seventh", x.run(0, 0, 5), FAULT + 1);
        expect.due("a seventh", x.run(0, 0, 6), FAULT + 3);
    }

    private static void changesStay() {
        TamedClassSet x = plain();
        x.addField(0, 0, CELL_TYPE);
        x.addField(0, 0, type(0));
        method(x, 0, STATIC, 0, INT, type(0), LOAD, 0, CELL, 0, NUL, 0, MAKE, 0, RETURN, 0);
        method(x, 0, 0, 1, INT, INT, LOAD, 0, GET, 0, LOAD, 1, WRITE, 0, LOAD, 0, LOAD, 0, PUT, 1, NUL, 0, GET, 0, READ, 0, RETURN, 0);
        method(x, 0, 0, 2, -1, INT, LOAD, 0, GET, 0, READ, 0, RETURN, 0);
        sealed(x);
        expect.due("made", x.run(0, 0, 5), OBJECT);
        expect.due("a fault behind the changes", x.run(1, 0, 9), FAULT + 1);
        expect.due("the cell", x.run(2, 0, 0), 9);
        expect.due("the field", x.look(0, 1), OBJECT);
    }

    private static void allHandles() {
        TamedClassSet x = plain();
        x.addField(0, 0, type(0));
        method(x, 0, STATIC, 0, type(0), type(0), LOAD, 0, MAKE, 0, RETURN, 0);
        method(x, 0, 0, 1, -1, type(0), LOAD, 0, GET, 0, RETURN, 0);
        sealed(x);
        for (int h = 0; h < 16; h++) expect.due("handle " + h, x.run(0, 0, h - 1), OBJECT + h);
        expect.due("all hold others", x.run(0, 0, 15), UNHELD);
        expect.due("none was given up", x.held(15), 2);
        for (int h = 15; h > 0; h--) expect.due("the one made before " + h, x.run(1, h, 0), OBJECT + h - 1);
        expect.due("null", x.run(1, 0, 0), NULL);
        expect.due("runs()", x.runs(), 33);
    }

    private static void fortyRuns() {
        TamedClassSet x = plain();
        method(x, 0, STATIC, 0, INT, INT, LOAD, 0, RETURN, 0);
        sealed(x);
        for (int n = 1; n <= 39; n++) {
            expect.due("run " + n, x.run(0, 0, n), n);
            expect.due("a refused one", x.run(1, 0, 0), REFUSED);
        }
        x.clear();
        x.addClass(-1, 0);
        method(x, 0, STATIC, 0, INT, INT, LOAD, 0, JUMP, 0);
        expect.due("does not fit", x.check(), 4000);
        x.clear();
        x.addClass(-1, 0);
        method(x, 0, STATIC, 0, INT, INT, JUMP, 0);
        sealed(x);
        expect.due("the fortieth", x.run(0, 0, 0), FAULT + 2);
        expect.due("one more", x.run(0, 0, 0), REFUSED);
        expect.due("runs()", x.runs(), 40);
        expect.due("steps()", x.steps(), 64);
    }
}
