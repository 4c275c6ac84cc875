/** Rule 4 of promise 6, code fits its types, and promise 8: typesAt. */
public final class FittingTest extends Sets {
    private static final int FITS = 0, UNFIT = 4000;
    private static final int[] NUMBERS = {Integer.MIN_VALUE, -1, 12, 99, Integer.MAX_VALUE};
    private static final Expect expect = new Expect();

    public static void main(String[] args) {
        endings();
        stacks();
        locals();
        ways();
        numbers();
        things();
        makes();
        calls();
        results();
        places();
        typesTold();
        typesRefused();
        expect.end();
    }

    /** Class 1 is under class 0, 2 beside them; field 0 a cell of 0, 1 a static int, 2 a 0 in class 1. */
    private static TamedClassSet set() {
        TamedClassSet x = new TamedClassSet();
        x.addClass(-1, 0);
        x.addClass(0, 0);
        x.addClass(-1, 0);
        x.addField(0, 0, CELL_TYPE);
        x.addField(0, STATIC + FINAL, INT);
        x.addField(1, 0, type(0));
        return x;
    }

    /** Checks one method, static, of class 0. */
    private static void fit(String what, int due, int param, int result, int... code) {
        TamedClassSet x = set();
        method(x, 0, STATIC, 0, param, result, code);
        expect.due(what, x.check(), due);
    }

    private static void endings() {
        fit("no instructions", UNFIT, -1, INT);
        fit("RETURN alone finds nothing", UNFIT, -1, INT, RETURN, 0);
        fit("a way behind the last", UNFIT, -1, INT, PUSH, 1);
        fit("ZERO last", UNFIT, -1, INT, PUSH, 1, ZERO, 0);
        fit("an endless way", FITS, -1, INT, JUMP, 0);
        fit("values left below the result", FITS, -1, INT, PUSH, 1, PUSH, 2, RETURN, 0);
        fit("code of 12", FITS, INT, INT, LOAD, 0, LOAD, 0, ADD, 0, LOAD, 0, ADD, 0, LOAD, 0, ADD, 0, LOAD, 0, ADD, 0, LOAD, 0, ADD, 0, RETURN, 0);
        fit("twelve without an end", UNFIT, INT, INT, LOAD, 0, LOAD, 0, ADD, 0, LOAD, 0, ADD, 0, LOAD, 0, ADD, 0, LOAD, 0, ADD, 0, LOAD, 0, ADD, 0, LIBRARY, 0);
    }

    private static void stacks() {
        fit("four values", FITS, -1, INT, PUSH, 1, PUSH, 1, PUSH, 1, PUSH, 1, RETURN, 0);
        fit("five values", UNFIT, -1, INT, PUSH, 1, PUSH, 1, PUSH, 1, PUSH, 1, PUSH, 1, RETURN, 0);
        fit("ADD at four", FITS, -1, INT, PUSH, 1, PUSH, 1, PUSH, 1, PUSH, 1, ADD, 0, PUSH, 1, RETURN, 0);
        fit("MAKE of a class without fields at four", UNFIT, -1, INT, PUSH, 1, PUSH, 1, PUSH, 1, PUSH, 1, MAKE, 2, RETURN, 0);
        fit("GETS at four", UNFIT, -1, INT, PUSH, 1, PUSH, 1, PUSH, 1, PUSH, 1, GETS, 1, RETURN, 0);
        fit("NULL at four", UNFIT, -1, type(0), PUSH, 1, PUSH, 1, PUSH, 1, PUSH, 1, NUL, 0, RETURN, 0);
        fit("LOAD at four", UNFIT, INT, INT, PUSH, 1, PUSH, 1, PUSH, 1, PUSH, 1, LOAD, 0, RETURN, 0);
        fit("CELL at four", FITS, -1, CELL_TYPE, PUSH, 1, PUSH, 1, PUSH, 1, PUSH, 1, CELL, 0, RETURN, 0);
        int[] takers = {STORE, ADD, SUB, ZERO, GET, PUT, PUTS, CELL, READ, WRITE, SAME, LIBRARY};
        for (int op : takers) {
            int a = op == ZERO ? 1 : op == PUTS ? 1 : 0;
            fit("op " + op + " on an empty stack", UNFIT, -1, INT, op, a, PUSH, 0, RETURN, 0);
        }
        int[] pairs = {ADD, SUB};
        for (int op : pairs) {
            fit("one value for op " + op, UNFIT, -1, INT, PUSH, 1, op, 0, RETURN, 0);
            fit("an object below for op " + op, UNFIT, -1, INT, NUL, 0, PUSH, 1, op, 0, RETURN, 0);
            fit("an object on top for op " + op, UNFIT, -1, INT, PUSH, 1, NUL, 0, op, 0, RETURN, 0);
            fit("two ints for op " + op, FITS, -1, INT, PUSH, 1, PUSH, 1, op, 77, RETURN, 77);
        }
    }

    private static void locals() {
        fit("the parameter", FITS, INT, INT, LOAD, 0, RETURN, 0);
        fit("local 0 unset", UNFIT, -1, INT, LOAD, 0, RETURN, 0);
        fit("local 1 unset", UNFIT, INT, INT, LOAD, 1, RETURN, 0);
        fit("local 2 unset", UNFIT, INT, INT, LOAD, 2, RETURN, 0);
        for (int l = 0; l < 3; l++) fit("set local " + l, FITS, -1, INT, PUSH, 1, STORE, l, LOAD, l, RETURN, 0);
        fit("another local set", UNFIT, -1, INT, PUSH, 1, STORE, 1, LOAD, 2, RETURN, 0);
        fit("a local of another type now", FITS, INT, type(0), NUL, 1, STORE, 0, LOAD, 0, RETURN, 0);
        fit("its earlier type", UNFIT, INT, INT, NUL, 1, STORE, 0, LOAD, 0, RETURN, 0);
        TamedClassSet x = set();
        method(x, 1, 0, 0, CELL_TYPE, type(1), LOAD, 1, READ, 0, STORE, 2, LOAD, 0, RETURN, 0);
        expect.due("receiver in 0, parameter in 1", x.check(), FITS);
        x = set();
        method(x, 1, 0, 0, -1, type(1), LOAD, 1, RETURN, 0);
        expect.due("a receiver alone leaves 1 unset", x.check(), UNFIT);
    }

    private static void ways() {
        fit("two ways meet", FITS, INT, INT, LOAD, 0, ZERO, 3, JUMP, 3, PUSH, 1, RETURN, 0);
        fit("other depths meet", UNFIT, INT, INT, LOAD, 0, ZERO, 3, PUSH, 1, PUSH, 1, RETURN, 0);
        fit("other types on the stack meet", UNFIT, INT, INT, LOAD, 0, ZERO, 4, PUSH, 1, JUMP, 5, NUL, 0, PUSH, 1, RETURN, 0);
        fit("a class and one under it meet", UNFIT, INT, type(0), LOAD, 0, ZERO, 4, NUL, 0, JUMP, 5, NUL, 1, RETURN, 0);
        fit("the same classes meet", FITS, INT, type(0), LOAD, 0, ZERO, 4, NUL, 1, JUMP, 5, NUL, 1, RETURN, 0);
        fit("a local set on one way", UNFIT, INT, INT, LOAD, 0, ZERO, 4, PUSH, 1, STORE, 2, PUSH, 1, RETURN, 0);
        fit("a local of other types, not used", UNFIT, INT, INT, LOAD, 0, ZERO, 4, NUL, 0, STORE, 0, PUSH, 1, RETURN, 0);
        fit("a local set on both", FITS, INT, INT, LOAD, 0, ZERO, 5, PUSH, 1, STORE, 2, JUMP, 7, PUSH, 2, STORE, 2, LOAD, 2, RETURN, 0);
        fit("not on a way", UNFIT, -1, INT, PUSH, 1, RETURN, 0, PUSH, 1, RETURN, 0);
        fit("jumped over", UNFIT, -1, INT, JUMP, 2, PUSH, 1, PUSH, 1, RETURN, 0);
        fit("back to the beginning with a set local", UNFIT, -1, INT, PUSH, 1, STORE, 0, JUMP, 0);
        fit("back to the beginning with a value", UNFIT, -1, INT, PUSH, 1, JUMP, 0);
        fit("a loop", FITS, INT, INT, LOAD, 0, ZERO, 7, LOAD, 0, PUSH, 1, SUB, 0, STORE, 0, JUMP, 0, LOAD, 0, RETURN, 0);
        fit("ZERO with the next as target", FITS, INT, INT, LOAD, 0, ZERO, 2, LOAD, 0, RETURN, 0);
        fit("ZERO to itself", UNFIT, INT, INT, LOAD, 0, ZERO, 1, LOAD, 0, RETURN, 0);
        fit("the fault lies behind ZERO", UNFIT, INT, INT, LOAD, 0, ZERO, 4, LOAD, 0, RETURN, 0, ADD, 0, RETURN, 0);
        fit("the fault lies before the target", UNFIT, INT, INT, LOAD, 0, ZERO, 4, ADD, 0, RETURN, 0, LOAD, 0, RETURN, 0);
        fit("what one way stores, the other does not see", FITS, INT, INT, LOAD, 0, ZERO, 6, PUSH, 1, LOAD, 0, ADD, 0, RETURN, 0, NUL, 0, STORE, 0, PUSH, 1, RETURN, 0);
        fit("backwards through the code", FITS, -1, INT, JUMP, 3, RETURN, 0, JUMP, 1, PUSH, 1, JUMP, 2);
    }

    private static void numbers() {
        for (int a : NUMBERS) {
            fit("LOAD " + a, UNFIT, INT, INT, LOAD, a, RETURN, 0);
            fit("STORE " + a, UNFIT, INT, INT, PUSH, 1, STORE, a, PUSH, 1, RETURN, 0);
            fit("JUMP " + a, UNFIT, INT, INT, JUMP, a);
            fit("ZERO " + a, UNFIT, INT, INT, PUSH, 1, ZERO, a, PUSH, 1, RETURN, 0);
            fit("MAKE " + a, UNFIT, INT, type(2), MAKE, a, RETURN, 0);
            fit("GET " + a, UNFIT, type(0), CELL_TYPE, LOAD, 0, GET, a, RETURN, 0);
            fit("PUT " + a, UNFIT, type(0), INT, LOAD, 0, LOAD, 0, GET, 0, PUT, a, PUSH, 1, RETURN, 0);
            fit("GETS " + a, UNFIT, INT, INT, GETS, a, RETURN, 0);
            fit("PUTS " + a, UNFIT, INT, INT, PUSH, 1, PUTS, a, PUSH, 1, RETURN, 0);
            fit("CALL " + a, UNFIT, INT, INT, PUSH, 1, CALL, a, RETURN, 0);
            fit("NULL " + a, UNFIT, INT, type(2), NUL, a, RETURN, 0);
            fit("LIBRARY " + a, UNFIT, INT, INT, PUSH, 1, LIBRARY, a, RETURN, 0);
            fit("PUSH " + a, FITS, INT, INT, PUSH, a, RETURN, a);
        }
        fit("LOAD 3", UNFIT, INT, INT, LOAD, 3, RETURN, 0);
        fit("STORE 3", UNFIT, INT, INT, PUSH, 1, STORE, 3, PUSH, 1, RETURN, 0);
        fit("JUMP behind the last", UNFIT, INT, INT, JUMP, 1);
        fit("ZERO behind the last", UNFIT, INT, INT, PUSH, 1, ZERO, 4, PUSH, 1, RETURN, 0);
        fit("MAKE of no class", UNFIT, INT, type(2), MAKE, 3, RETURN, 0);
        fit("NULL of no class", UNFIT, INT, type(2), NUL, 3, RETURN, 0);
        fit("GET of a static field", UNFIT, type(0), INT, LOAD, 0, GET, 1, RETURN, 0);
        fit("PUT of a static field", UNFIT, type(0), INT, LOAD, 0, PUSH, 1, PUT, 1, PUSH, 1, RETURN, 0);
        fit("GETS of a field of objects", UNFIT, INT, CELL_TYPE, GETS, 0, RETURN, 0);
        fit("PUTS of a field of objects", UNFIT, CELL_TYPE, INT, LOAD, 0, PUTS, 0, PUSH, 1, RETURN, 0);
        fit("GET of no field", UNFIT, type(0), INT, LOAD, 0, GET, 3, RETURN, 0);
        fit("CALL of no method", UNFIT, INT, INT, LOAD, 0, CALL, 1, RETURN, 0);
        fit("LIBRARY 4", UNFIT, INT, INT, LOAD, 0, LIBRARY, 4, RETURN, 0);
        fit("LIBRARY 3 fits, rule 5 refuses it", 5001, INT, INT, LOAD, 0, LIBRARY, 3, RETURN, 0);
        fit("PUTS fits, rule 6 refuses it", 6001, INT, INT, LOAD, 0, PUTS, 1, PUSH, 1, RETURN, 0);
        fit("PUTS of another type", UNFIT, CELL_TYPE, INT, LOAD, 0, PUTS, 1, PUSH, 1, RETURN, 0);
    }

    private static void things() {
        fit("GET of a class", FITS, type(0), CELL_TYPE, LOAD, 0, GET, 0, RETURN, 0);
        fit("GET of one under it", FITS, type(1), CELL_TYPE, LOAD, 0, GET, 0, RETURN, 0);
        fit("GET of its parent", UNFIT, type(0), type(0), LOAD, 0, GET, 2, RETURN, 0);
        fit("GET of another class", UNFIT, type(2), CELL_TYPE, LOAD, 0, GET, 0, RETURN, 0);
        fit("GET of an int", UNFIT, INT, CELL_TYPE, LOAD, 0, GET, 0, RETURN, 0);
        fit("GET of a cell", UNFIT, CELL_TYPE, CELL_TYPE, LOAD, 0, GET, 0, RETURN, 0);
        fit("PUT what fits", FITS, type(1), INT, LOAD, 0, LOAD, 0, PUT, 2, PUSH, 1, RETURN, 0);
        fit("PUT what does not fit", UNFIT, type(1), INT, LOAD, 0, NUL, 2, PUT, 2, PUSH, 1, RETURN, 0);
        fit("PUT in the wrong order", UNFIT, type(0), INT, LOAD, 0, GET, 0, LOAD, 0, PUT, 0, PUSH, 1, RETURN, 0);
        fit("PUT into the parent", UNFIT, type(0), INT, LOAD, 0, LOAD, 0, PUT, 2, PUSH, 1, RETURN, 0);
        fit("READ", FITS, CELL_TYPE, INT, LOAD, 0, READ, 9, RETURN, 0);
        fit("READ an int", UNFIT, INT, INT, LOAD, 0, READ, 0, RETURN, 0);
        fit("READ an object", UNFIT, type(0), INT, LOAD, 0, READ, 0, RETURN, 0);
        fit("WRITE", FITS, CELL_TYPE, INT, LOAD, 0, PUSH, 1, WRITE, 9, PUSH, 1, RETURN, 0);
        fit("WRITE in the wrong order", UNFIT, CELL_TYPE, INT, PUSH, 1, LOAD, 0, WRITE, 0, PUSH, 1, RETURN, 0);
        fit("WRITE a cell", UNFIT, CELL_TYPE, INT, LOAD, 0, LOAD, 0, WRITE, 0, PUSH, 1, RETURN, 0);
        fit("CELL of a cell", UNFIT, CELL_TYPE, CELL_TYPE, LOAD, 0, CELL, 0, RETURN, 0);
        fit("ZERO of an object", UNFIT, type(0), INT, LOAD, 0, ZERO, 2, PUSH, 1, RETURN, 0);
        fit("LIBRARY of a cell", UNFIT, CELL_TYPE, INT, LOAD, 0, LIBRARY, 0, RETURN, 0);
        fit("SAME of a cell and an object", FITS, CELL_TYPE, INT, LOAD, 0, NUL, 0, SAME, 9, RETURN, 0);
        fit("SAME with an int on top", UNFIT, CELL_TYPE, INT, LOAD, 0, PUSH, 0, SAME, 0, RETURN, 0);
        fit("SAME with an int below", UNFIT, CELL_TYPE, INT, PUSH, 0, LOAD, 0, SAME, 0, RETURN, 0);
        fit("SAME of one", UNFIT, CELL_TYPE, INT, LOAD, 0, SAME, 0, RETURN, 0);
    }

    private static void makes() {
        fit("all own fields in order", FITS, CELL_TYPE, type(1), LOAD, 0, NUL, 0, MAKE, 1, RETURN, 0);
        fit("a value under the field's class", FITS, CELL_TYPE, type(1), LOAD, 0, NUL, 1, MAKE, 1, RETURN, 0);
        fit("in the wrong order", UNFIT, CELL_TYPE, type(1), NUL, 0, LOAD, 0, MAKE, 1, RETURN, 0);
        fit("a value less", UNFIT, CELL_TYPE, type(1), LOAD, 0, MAKE, 1, RETURN, 0);
        fit("a value that does not fit", UNFIT, CELL_TYPE, type(1), LOAD, 0, NUL, 2, MAKE, 1, RETURN, 0);
        fit("no fields", FITS, -1, type(2), MAKE, 2, RETURN, 0);
        for (int fields = 4; fields <= 5; fields++) {
            TamedClassSet x = new TamedClassSet();
            x.addClass(-1, 0);
            for (int f = 0; f < fields; f++) x.addField(0, 0, INT);
            int m = method(x, 0, STATIC, 0, -1, type(0));
            for (int f = 0; f < fields; f++) code(x, m, PUSH, f);
            code(x, m, MAKE, 0, RETURN, 0);
            expect.due(fields + " own fields", x.check(), fields == 4 ? FITS : UNFIT);
        }
        TamedClassSet x = new TamedClassSet();
        x.addClass(-1, 0);
        x.addClass(0, 0);
        x.addField(1, 0, CELL_TYPE);
        x.addField(0, 0, INT);
        method(x, 0, STATIC, 0, CELL_TYPE, type(0), LOAD, 0, PUSH, 1, MAKE, 1, RETURN, 0);
        method(x, 0, STATIC, 1, CELL_TYPE, type(0), PUSH, 1, MAKE, 0, RETURN, 0);
        expect.due("by number, though the parent's come later", x.check(), FITS);
    }

    private static void call(String what, int due, int param, int... code) {
        TamedClassSet x = set();
        method(x, 0, STATIC, 0, param, INT, code);
        method(x, 1, 0, 1, type(0), CELL_TYPE, LOAD, 1, GET, 0, RETURN, 0);
        method(x, 0, 0, 2, -1, INT, PUSH, 1, RETURN, 0);
        method(x, 0, STATIC, 3, INT, INT, LOAD, 0, RETURN, 0);
        method(x, 0, STATIC, 4, -1, INT, PUSH, 2, RETURN, 0);
        expect.due("CALL: " + what, x.check(), due);
    }

    private static void calls() {
        call("receiver and argument", FITS, type(1), LOAD, 0, LOAD, 0, CALL, 1, READ, 0, RETURN, 0);
        call("an argument that fits exactly", FITS, type(1), LOAD, 0, NUL, 0, CALL, 1, READ, 0, RETURN, 0);
        call("an argument that does not fit", UNFIT, type(1), LOAD, 0, NUL, 2, CALL, 1, READ, 0, RETURN, 0);
        call("the parent as receiver", UNFIT, type(0), LOAD, 0, LOAD, 0, CALL, 1, READ, 0, RETURN, 0);
        call("no receiver", UNFIT, type(1), LOAD, 0, CALL, 1, READ, 0, RETURN, 0);
        call("its result has its type", UNFIT, type(1), LOAD, 0, LOAD, 0, CALL, 1, RETURN, 0);
        call("a child as receiver", FITS, type(1), LOAD, 0, CALL, 2, RETURN, 0);
        call("a cell as receiver", UNFIT, CELL_TYPE, LOAD, 0, CALL, 2, RETURN, 0);
        call("static", FITS, INT, LOAD, 0, CALL, 3, RETURN, 0);
        call("static without its argument", UNFIT, INT, CALL, 3, RETURN, 0);
        call("neither receiver nor parameter", FITS, INT, CALL, 4, RETURN, 0);
        call("neither, at four values", UNFIT, INT, PUSH, 1, PUSH, 1, PUSH, 1, PUSH, 1, CALL, 4, RETURN, 0);
    }

    private static void results() {
        fit("a child as result", FITS, type(1), type(0), LOAD, 0, RETURN, 0);
        fit("the parent as result", UNFIT, type(0), type(1), LOAD, 0, RETURN, 0);
        fit("a cell for an int", UNFIT, CELL_TYPE, INT, LOAD, 0, RETURN, 0);
        fit("an int for a cell", UNFIT, INT, CELL_TYPE, LOAD, 0, RETURN, 0);
        fit("an int for an object", UNFIT, INT, type(0), PUSH, 0, RETURN, 0);
        fit("a cell for an object", UNFIT, CELL_TYPE, type(0), LOAD, 0, RETURN, 0);
    }

    private static void places() {
        TamedClassSet x = set();
        method(x, 0, STATIC, 0, -1, INT, PUSH, 0, RETURN, 0);
        x.addMethod(0, STATIC, 1, -1, INT);
        x.addMethod(0, STATIC, 2, -1, INT);
        expect.due("the first method that does not fit", x.check(), 4001);
        code(x, 1, PUSH, 1, RETURN, 0);
        expect.due("the next one", x.check(), 4002);
        code(x, 2, PUSH, 1, RETURN, 0);
        expect.due("none", x.check(), 0);
    }

    private static void typesTold() {
        TamedClassSet x = new TamedClassSet();
        for (int c = 0; c < 8; c++) x.addClass(-1, 0);
        method(x, 7, 0, 0, CELL_TYPE, INT, NUL, 7, PUSH, 1, LOAD, 1, NUL, 0, STORE, 2, READ, 0, SUB, 0, RETURN, 0);
        method(x, 6, STATIC, 0, -1, INT, PUSH, 1, STORE, 2, JUMP, 3, LOAD, 2, RETURN, 0);
        expect.due("READ then SUB of ints", x.check(), 0);
        int start = 0x02A0000;
        int[] due = {start, start + 0xA, start + 0x1A, start + 0x21A, start + 0x321A, start + 0x300021A, start + 0x300011A,
            start + 0x300001A};
        for (int i = 0; i < due.length; i++) expect.due("typesAt(0, " + i + ")", x.typesAt(0, i), due[i]);
        int[] dueOfStatic = {0, 1, 0x1000000, 0x1000000, 0x1000001};
        for (int i = 0; i < dueOfStatic.length; i++) expect.due("typesAt(1, " + i + ")", x.typesAt(1, i), dueOfStatic[i]);
    }

    private static void typesRefused() {
        TamedClassSet x = plain();
        method(x, 0, STATIC, 0, INT, INT, LOAD, 0, RETURN, 0);
        method(x, 0, STATIC, 1, INT, INT, LOAD, 0, LOAD, 0, ADD, 0, RETURN, 0);
        expect.due("not sealed", x.typesAt(0, 0), TamedClassSet.BAD);
        x.check();
        expect.due("sealed", x.typesAt(0, 1), 0x10001);
        int[] noInstruction = {-1, 2, 3, 12, Integer.MIN_VALUE, Integer.MAX_VALUE};
        for (int i : noInstruction) expect.due("typesAt(0, " + i + ")", x.typesAt(0, i), TamedClassSet.BAD);
        int[] noMethod = {-1, 2, 8, Integer.MIN_VALUE, Integer.MAX_VALUE};
        for (int m : noMethod) expect.due("typesAt(" + m + ", 0)", x.typesAt(m, 0), TamedClassSet.BAD);
        x.clear();
        expect.due("cleared", x.typesAt(0, 0), TamedClassSet.BAD);
        x.addClass(-1, 0);
        method(x, 0, STATIC, 0, INT, INT, LOAD, 0, RETURN, 0, RETURN, 0);
        x.check();
        expect.due("refused by check", x.typesAt(0, 0), TamedClassSet.BAD);
    }
}
