/** What each instruction takes, gives and does where no boundary is near, each under its own line of the document. */
public final class InstructionsTest extends Sets {
    private static final long NULL = TamedClassSet.NULL, OBJECT = TamedClassSet.OBJECT, FAULT = TamedClassSet.FAULT,
            REFUSED = TamedClassSet.REFUSED;
    private static final int DOES_NOT_FIT = 4000;
    private static final Expect expect = new Expect();

    public static void main(String[] args) {
        receivers();
        oneAfterTheOther();
        push();
        load();
        store();
        jump();
        make();
        get();
        put();
        puts();
        call();
        cell();
        read();
        write();
        nul();
        library();
        faultEnds();
        addedClass();
        addedField();
        addedMethod();
        expect.end();
    }

    private static void sealed(TamedClassSet x) {
        expect.due("check()", x.check(), 0);
    }

    /** The types as typesAt tells them: those of the stack, the lowest first, then those of the locals, -1 where unset. */
    private static int types(int[] stack, int... locals) {
        int sum = 0;
        for (int k = 0; k < stack.length; k++) sum += (stack[k] + 1) * (int) Math.pow(16, k);
        for (int l = 0; l < locals.length; l++) sum += (locals[l] + 1) * 65536 * (int) Math.pow(16, l);
        return sum;
    }

    private static int[] on(int... stack) {
        return stack;
    }

    /** What check answers for a static method without a parameter, in a set of a class with the fields 0 INT, 1 CELL. */
    private static int checked(int result, int... code) {
        TamedClassSet x = plain();
        x.addField(0, 0, INT);
        x.addField(0, 0, CELL_TYPE);
        method(x, 0, STATIC, 0, -1, result, code);
        return x.check();
    }

    private static void receivers() {
        expect.sentence("those that are not static have a RECEIVER");
        TamedClassSet x = plain();
        method(x, 0, 0, 0, -1, type(0), LOAD, 0, RETURN, 0);
        method(x, 0, STATIC, 1, -1, type(0), MAKE, 0, RETURN, 0);
        sealed(x);
        expect.due("not static: local 0 before instruction 0", x.typesAt(0, 0), types(on(), type(0)));
        expect.due("static: no local is set", x.typesAt(1, 0), 0);
        expect.due("not static: without a receiver", x.run(0, 0, 0), REFUSED);
        expect.due("static: without a receiver", x.run(1, -1, 0), OBJECT);
        expect.due("not static: it is the receiver", x.run(0, 0, 0), OBJECT);
        expect.due("static: LOAD 0 finds it unset", checked(INT, LOAD, 0, RETURN, 0), DOES_NOT_FIT);
    }

    private static void oneAfterTheOther() {
        expect.sentence("A RUN does a method's instructions one after the other.");
        TamedClassSet x = plain();
        method(x, 0, STATIC, 0, INT, INT, LOAD, 0, PUSH, 30, SUB, 0, STORE, 1, PUSH, 7, LOAD, 1, SUB, 0, RETURN, 0);
        sealed(x);
        expect.due("7 - (100 - 30)", x.run(0, 0, 100), -63);
        expect.due("steps()", x.steps(), 8);
    }

    private static void push() {
        expect.sentence("0 PUSH: -> INT a");
        int[] ints = {Integer.MIN_VALUE, -1, 0, 1, 65536, Integer.MAX_VALUE};
        for (int a : ints) {
            TamedClassSet x = plain();
            method(x, 0, STATIC, 0, -1, INT, PUSH, a, RETURN, 0);
            sealed(x);
            expect.due("the types behind PUSH " + a, x.typesAt(0, 1), types(on(INT)));
            expect.due("PUSH " + a, x.run(0, 0, 0), a);
        }
    }

    private static void load() {
        expect.sentence("1 LOAD: -> the value of local a, which must be set");
        TamedClassSet x = plain();
        method(x, 0, 0, 0, INT, INT, LOAD, 1, LOAD, 1, SUB, 0, LOAD, 1, SUB, 0, RETURN, 0);
        method(x, 0, STATIC, 1, -1, type(0), MAKE, 0, RETURN, 0);
        sealed(x);
        expect.due("an object", x.run(1, 0, 0), OBJECT);
        expect.due("the types behind two LOADs", x.typesAt(0, 2), types(on(INT, INT), type(0), INT));
        expect.due("the local keeps its value", x.run(0, 0, 6), -6);
    }

    private static void store() {
        expect.sentence("2 STORE: v -> , local a becomes v (of whatever type)");
        TamedClassSet x = plain();
        method(x, 0, STATIC, 0, INT, INT, PUSH, 5, CELL, 0, STORE, 0, MAKE, 0, STORE, 1, PUSH, 8, STORE, 2, LOAD, 0, READ, 0, LOAD, 2, SUB, 0, RETURN, 0);
        sealed(x);
        expect.due("an INT becomes a CELL", x.typesAt(0, 3), types(on(), CELL_TYPE));
        expect.due("an object, and an INT", x.typesAt(0, 7), types(on(), CELL_TYPE, type(0), INT));
        expect.due("5 - 8", x.run(0, 0, 99), -3);
    }

    private static void jump() {
        expect.sentence("5 JUMP: instruction a comes next");
        TamedClassSet x = plain();
        method(x, 0, STATIC, 0, INT, INT, JUMP, 5, PUSH, 1, ADD, 0, RETURN, 0, JUMP, 1, LOAD, 0, JUMP, 4);
        sealed(x);
        expect.due("forth and back", x.run(0, 0, 41), 42);
        expect.due("steps()", x.steps(), 7);
        expect.due("the stack stays as it is", x.typesAt(0, 4), types(on(INT), INT));
    }

    private static void make() {
        expect.sentence("7 MAKE: one value for each of class a's own fields, each fitting its type -> a new object of class a with these in its fields");
        TamedClassSet x = plain();
        x.addClass(0, 0);
        x.addField(0, 0, INT);
        x.addField(1, 0, CELL_TYPE);
        x.addField(0, 0, type(0));
        method(x, 0, STATIC, 0, INT, type(0), PUSH, 70, LOAD, 0, CELL, 0, NUL, 1, MAKE, 1, RETURN, 0);
        method(x, 0, 0, 1, INT, type(0), LOAD, 1, LOAD, 0, MAKE, 0, RETURN, 0);
        sealed(x);
        expect.due("the types before MAKE", x.typesAt(0, 4), types(on(INT, CELL_TYPE, type(1)), INT));
        expect.due("the types behind MAKE", x.typesAt(0, 5), types(on(type(1)), INT));
        expect.due("a child", x.run(0, 0, 80), OBJECT);
        expect.due("another", x.run(0, 0, 80), OBJECT + 1);
        expect.due("a parent that holds the child", x.run(1, 0, 90), OBJECT + 2);
        int[] due = {type(1), type(1), type(0)};
        for (int h = 0; h < 3; h++) expect.due("held(" + h + ")", x.held(h), due[h]);
        expect.due("the child's int", x.look(0, 0), 70);
        expect.due("the child's cell is in no handle", x.look(0, 1), TamedClassSet.UNHELD);
        expect.due("the child's null", x.look(0, 2), NULL);
        expect.due("the parent's int", x.look(2, 0), 90);
        expect.due("the parent's object", x.look(2, 2), OBJECT);
        expect.due("the values in another order do not fit", checked(type(0), PUSH, 1, CELL, 0, PUSH, 1, MAKE, 0, RETURN, 0), DOES_NOT_FIT);
        expect.due("in this order they do", checked(type(0), PUSH, 1, PUSH, 1, CELL, 0, MAKE, 0, RETURN, 0), 0);
    }

    /** Classes 0 <- 1 and 2; fields 0 INT of class 0, 1 of type class 0 of class 1. */
    private static TamedClassSet family() {
        TamedClassSet x = plain();
        x.addClass(0, 0);
        x.addClass(-1, 0);
        x.addField(0, 0, INT);
        x.addField(1, 0, type(0));
        method(x, 0, STATIC, 0, INT, type(0), LOAD, 0, MAKE, 0, RETURN, 0);
        method(x, 0, STATIC, 1, INT, type(1), LOAD, 0, PUSH, 5, MAKE, 0, MAKE, 1, RETURN, 0);
        return x;
    }

    private static int familyWith(int param, int result, int... code) {
        TamedClassSet x = family();
        int method = method(x, 0, STATIC, 2, param, result, code);
        int answer = x.check();
        return answer == DOES_NOT_FIT + method ? DOES_NOT_FIT : answer;
    }

    private static void get() {
        expect.sentence("8 GET: an object of a class under the class of field a -> the field's value");
        TamedClassSet x = family();
        method(x, 0, 0, 2, -1, INT, LOAD, 0, GET, 0, RETURN, 0);
        method(x, 1, 0, 3, -1, type(0), LOAD, 0, GET, 1, RETURN, 0);
        method(x, 1, 0, 4, -1, INT, LOAD, 0, GET, 1, GET, 0, RETURN, 0);
        sealed(x);
        expect.due("the types behind GET 1", x.typesAt(3, 2), types(on(type(0)), type(1)));
        expect.due("a parent", x.run(0, 0, 30), OBJECT);
        expect.due("a child", x.run(1, 0, 40), OBJECT + 1);
        expect.due("the parent's field 0", x.run(2, 0, 0), 30);
        expect.due("the child's field 0", x.run(2, 1, 0), 40);
        expect.due("the child's field 1", x.run(3, 1, 0), OBJECT + 2);
        expect.due("field 0 of that one", x.run(4, 1, 0), 5);
        expect.due("a child's field of the child", familyWith(type(1), INT, LOAD, 0, GET, 0, RETURN, 0), 0);
        expect.due("a child's field of the parent", familyWith(type(0), type(0), LOAD, 0, GET, 1, RETURN, 0), DOES_NOT_FIT);
        expect.due("another class", familyWith(type(2), INT, LOAD, 0, GET, 0, RETURN, 0), DOES_NOT_FIT);
        expect.due("a cell", familyWith(CELL_TYPE, INT, LOAD, 0, GET, 0, RETURN, 0), DOES_NOT_FIT);
        expect.due("an int", familyWith(INT, INT, LOAD, 0, GET, 0, RETURN, 0), DOES_NOT_FIT);
    }

    private static void put() {
        expect.sentence("9 PUT: the same, a value that fits the field -> , the field becomes the value");
        TamedClassSet x = family();
        method(x, 0, 0, 2, INT, INT, LOAD, 1, LOAD, 0, LOAD, 1, PUT, 0, RETURN, 0);
        method(x, 1, 0, 3, type(1), type(0), LOAD, 0, LOAD, 1, PUT, 1, LOAD, 0, GET, 1, RETURN, 0);
        sealed(x);
        expect.due("the types before PUT", x.typesAt(2, 3), types(on(INT, type(0), INT), type(0), INT));
        expect.due("the types behind PUT", x.typesAt(2, 4), types(on(INT), type(0), INT));
        expect.due("a parent", x.run(0, 0, 30), OBJECT);
        expect.due("a child", x.run(1, 0, 40), OBJECT + 1);
        expect.due("PUT into the parent", x.run(2, 0, 31), 31);
        expect.due("the parent's field 0", x.look(0, 0), 31);
        expect.due("the child's is as it was", x.look(1, 0), 40);
        expect.due("PUT of a child into the child", x.run(3, 1, 1), OBJECT + 1);
        expect.due("the child's field 1", x.look(1, 1), OBJECT + 1);
        expect.due("PUT of null", x.run(3, 1, -1), NULL);
        expect.due("the child's field 1 now", x.look(1, 1), NULL);
        expect.due("a value of another class", familyWith(type(1), INT, LOAD, 0, NUL, 2, PUT, 1, PUSH, 0, RETURN, 0), DOES_NOT_FIT);
        expect.due("the value before the object", familyWith(type(0), INT, PUSH, 1, LOAD, 0, PUT, 0, PUSH, 0, RETURN, 0), DOES_NOT_FIT);
        expect.due("another class", familyWith(type(2), INT, LOAD, 0, PUSH, 1, PUT, 0, PUSH, 0, RETURN, 0), DOES_NOT_FIT);
    }

    /** PUTS fits, so that rule 6 and no other is the one that it breaks. */
    private static void puts() {
        expect.sentence("11 PUTS: a value that fits -> , into the static field a");
        int[][] codes = {{PUSH, 1, PUTS, 0}, {NUL, 1, PUTS, 1}, {NUL, 0, PUTS, 1}, {PUSH, 1, PUTS, 1}, {NUL, 0, PUTS, 0}, {NUL, 2, PUTS, 1}};
        int[] due = {6001, 6001, 6001, DOES_NOT_FIT, DOES_NOT_FIT, DOES_NOT_FIT};
        for (int k = 0; k < codes.length; k++) {
            TamedClassSet x = new TamedClassSet();
            x.addClass(-1, 2);
            x.addClass(0, 0);
            x.addClass(-1, 2);
            x.addField(0, STATIC + FINAL, INT);
            x.addField(0, STATIC + FINAL, type(0));
            int m = method(x, 0, STATIC, 0, -1, INT, codes[k]);
            code(x, m, PUSH, 0, RETURN, 0);
            expect.due("code " + k, x.check(), due[k]);
        }
        expect.due("with nothing on the stack", checked(INT, PUTS, 0, PUSH, 0, RETURN, 0), DOES_NOT_FIT);
    }

    private static void call() {
        expect.sentence("12 CALL: the receiver, if method a has one (of a class under the method's class), an argument, if it has a parameter (fitting it) -> the result of the method");
        TamedClassSet x = family();
        method(x, 0, 0, 2, INT, INT, LOAD, 1, LOAD, 0, GET, 0, SUB, 0, RETURN, 0);
        method(x, 0, 0, 3, -1, type(0), LOAD, 0, RETURN, 0);
        method(x, 2, STATIC, 4, INT, INT, PUSH, 9, LOAD, 0, CALL, 1, LOAD, 0, CALL, 2, SUB, 0, RETURN, 0);
        method(x, 2, STATIC, 5, -1, INT, PUSH, 77, RETURN, 0);
        method(x, 2, STATIC, 6, type(1), type(0), LOAD, 0, CALL, 3, RETURN, 0);
        method(x, 2, STATIC, 7, INT, INT, LOAD, 0, CALL, 5, SUB, 0, RETURN, 0);
        sealed(x);
        expect.due("the types behind a CALL without a receiver", x.typesAt(4, 3), types(on(INT, type(1)), INT));
        expect.due("the types behind a CALL with one", x.typesAt(4, 5), types(on(INT, INT), INT));
        expect.due("a child and an int: 9 - (50 - 50)", x.run(4, 0, 50), 9);
        expect.due("a child", x.run(1, 0, 40), OBJECT);
        expect.due("the receiver alone", x.run(6, 0, 0), OBJECT);
        expect.due("its result has the type told, not the child's", x.typesAt(6, 2), types(on(type(0)), type(1)));
        expect.due("neither a receiver nor an argument", x.run(7, 0, 100), 23);
        expect.due("a receiver that is wanted", familyWith(type(1), type(0), CALL, 2, RETURN, 0), DOES_NOT_FIT);
        expect.due("the argument of another type", familyWith(CELL_TYPE, type(0), LOAD, 0, CALL, 0, RETURN, 0), DOES_NOT_FIT);
        expect.due("the result of another type", familyWith(INT, INT, LOAD, 0, CALL, 0, RETURN, 0), DOES_NOT_FIT);
    }

    private static void cell() {
        expect.sentence("13 CELL: INT x -> a new cell that holds x");
        TamedClassSet x = plain();
        method(x, 0, STATIC, 0, INT, CELL_TYPE, LOAD, 0, CELL, 0, RETURN, 0);
        sealed(x);
        expect.due("the types behind CELL", x.typesAt(0, 2), types(on(CELL_TYPE), INT));
        for (int k = 0; k < 3; k++) expect.due("a new one each time", x.run(0, 0, -k), OBJECT + k);
        for (int k = 0; k < 3; k++) {
            expect.due("held(" + k + ")", x.held(k), CELL_TYPE);
            expect.due("look(" + k + ", 0)", x.look(k, 0), -k);
        }
        expect.due("of a cell", checked(CELL_TYPE, PUSH, 1, CELL, 0, CELL, 0, RETURN, 0), DOES_NOT_FIT);
        expect.due("of null", checked(CELL_TYPE, NUL, 0, CELL, 0, RETURN, 0), DOES_NOT_FIT);
    }

    private static void read() {
        expect.sentence("14 READ: CELL -> what it holds");
        TamedClassSet x = plain();
        method(x, 0, STATIC, 0, INT, CELL_TYPE, LOAD, 0, CELL, 0, RETURN, 0);
        method(x, 0, STATIC, 1, CELL_TYPE, INT, LOAD, 0, READ, 0, RETURN, 0);
        sealed(x);
        expect.due("the types behind READ", x.typesAt(1, 2), types(on(INT), CELL_TYPE));
        expect.due("a cell", x.run(0, 0, 12), OBJECT);
        expect.due("another", x.run(0, 0, -13), OBJECT + 1);
        expect.due("the first", x.run(1, 0, 0), 12);
        expect.due("the second", x.run(1, 0, 1), -13);
        expect.due("the first holds it still", x.run(1, 0, 0), 12);
        expect.due("of an int", checked(INT, PUSH, 1, READ, 0, RETURN, 0), DOES_NOT_FIT);
        expect.due("of an object", checked(INT, NUL, 0, READ, 0, RETURN, 0), DOES_NOT_FIT);
    }

    private static void write() {
        expect.sentence("15 WRITE: CELL, INT x -> , the cell holds x");
        TamedClassSet x = plain();
        method(x, 0, STATIC, 0, INT, CELL_TYPE, LOAD, 0, CELL, 0, RETURN, 0);
        method(x, 0, STATIC, 1, CELL_TYPE, INT, PUSH, 3, LOAD, 0, LOAD, 0, READ, 0, PUSH, 1, ADD, 0, WRITE, 0, RETURN, 0);
        sealed(x);
        expect.due("the types before WRITE", x.typesAt(1, 6), types(on(INT, CELL_TYPE, INT), CELL_TYPE));
        expect.due("the types behind WRITE", x.typesAt(1, 7), types(on(INT), CELL_TYPE));
        expect.due("a cell", x.run(0, 0, 12), OBJECT);
        expect.due("another", x.run(0, 0, 12), OBJECT + 1);
        expect.due("one more in the first", x.run(1, 0, 0), 3);
        expect.due("the first", x.look(0, 0), 13);
        expect.due("the second is as it was", x.look(1, 0), 12);
        expect.due("the int before the cell", checked(INT, PUSH, 1, PUSH, 1, CELL, 0, WRITE, 0, PUSH, 0, RETURN, 0), DOES_NOT_FIT);
        expect.due("a cell into a cell", checked(INT, PUSH, 1, CELL, 0, PUSH, 1, CELL, 0, WRITE, 0, PUSH, 0, RETURN, 0), DOES_NOT_FIT);
        expect.due("into an object", checked(INT, NUL, 0, PUSH, 1, WRITE, 0, PUSH, 0, RETURN, 0), DOES_NOT_FIT);
    }

    private static void nul() {
        expect.sentence("17 NULL: -> null, as of class a");
        TamedClassSet x = family();
        method(x, 2, STATIC, 0, -1, type(0), NUL, 1, RETURN, 0);
        method(x, 2, STATIC, 1, -1, INT, NUL, 1, GET, 0, RETURN, 0);
        sealed(x);
        expect.due("the types behind NULL 1", x.typesAt(2, 1), types(on(type(1))));
        expect.due("it is null", x.run(2, 0, 0), NULL);
        expect.due("it is in no handle", x.held(0), TamedClassSet.BAD);
        expect.due("it has no fields", x.run(3, 0, 0), FAULT + 1);
        expect.due("null of the parent is none of the child", familyWith(-1, type(1), NUL, 0, RETURN, 0), DOES_NOT_FIT);
        expect.due("null is no cell", familyWith(-1, CELL_TYPE, NUL, 0, RETURN, 0), DOES_NOT_FIT);
        expect.due("null is no int", familyWith(-1, INT, NUL, 0, RETURN, 0), DOES_NOT_FIT);
    }

    private static void library() {
        expect.sentence("18 LIBRARY: INT x -> INT: of the functions a: 0 the absolute value (of -2^31 itself), 1 how many bits are set, 2 the time, 3 a drawn number");
        TamedClassSet x = plain();
        method(x, 0, STATIC, 0, INT, INT, PUSH, 100, LOAD, 0, LIBRARY, 0, SUB, 0, RETURN, 0);
        method(x, 0, STATIC, 1, INT, INT, PUSH, 100, LOAD, 0, LIBRARY, 1, SUB, 0, RETURN, 0);
        sealed(x);
        expect.due("the types behind LIBRARY", x.typesAt(0, 3), types(on(INT, INT), INT));
        expect.due("100 - |-6|", x.run(0, 0, -6), 94);
        expect.due("100 - the bits of 255", x.run(1, 0, 255), 92);
        expect.due("the time fits its types, and breaks rule 5", checked(INT, PUSH, 0, LIBRARY, 2, RETURN, 0), 5001);
        expect.due("a drawn number too", checked(INT, PUSH, 0, LIBRARY, 3, RETURN, 0), 5001);
        for (int a = 0; a < 4; a++) {
            expect.due("function " + a + " of null", checked(INT, NUL, 0, LIBRARY, a, RETURN, 0), DOES_NOT_FIT);
            expect.due("function " + a + " of nothing", checked(INT, LIBRARY, a, RETURN, 0), DOES_NOT_FIT);
        }
    }

    private static void faultEnds() {
        expect.sentence("A run FAULTS, and ends, when");
        TamedClassSet x = plain();
        x.addField(0, 0, INT);
        method(x, 0, STATIC, 0, INT, type(0), LOAD, 0, MAKE, 0, RETURN, 0);
        method(x, 0, 0, 1, type(0), INT, LOAD, 0, PUSH, 1, PUT, 0, LOAD, 1, GET, 0, LOAD, 0, PUSH, 2, PUT, 0, RETURN, 0);
        method(x, 0, 0, 2, type(0), INT, LOAD, 0, LOAD, 1, CALL, 1, LOAD, 0, PUSH, 3, PUT, 0, RETURN, 0);
        sealed(x);
        expect.due("an object", x.run(0, 0, 0), OBJECT);
        expect.due("a fault in the called method", x.run(2, 0, -1), FAULT + 1);
        expect.due("steps()", x.steps(), 8);
        expect.due("nothing behind it was done, there or in the caller", x.look(0, 0), 1);
        expect.due("the next run begins anew", x.run(2, 0, 0), 1);
        expect.due("steps()", x.steps(), 16);
        expect.due("it was done to its end", x.look(0, 0), 3);
    }

    /** The marks show in what a field of the class may be. */
    private static void addedClass() {
        expect.sentence("2: Adds a class with a parent (-1: none) and marks (0 .. 3: the sum of marks 1 and 2) and answers its number.");
        for (int marks = 0; marks <= 3; marks++) {
            TamedClassSet x = new TamedClassSet();
            expect.due("its number", x.addClass(-1, 1), 0);
            expect.due("its number", x.addClass(-1, marks), 1);
            x.addField(1, FINAL, type(0));
            expect.due("an immutable field that has power, marks " + marks, x.check(), marks >= 2 ? 2000 : 0);
            TamedClassSet y = new TamedClassSet();
            y.addClass(-1, marks);
            y.addField(0, 0, INT);
            expect.due("a field that is not final, marks " + marks, y.check(), marks == 0 ? 0 : 2000);
        }
    }

    private static void addedField() {
        expect.sentence("3: Adds a field to class cls, how: the sum of 1 if it is static and 2 if it is final, and answers its number.");
        int[] put = {0, 1000, 6002, 4000};
        int[] puts = {4000, 1000, 4000, 6001};
        for (int how = 0; how <= 3; how++) {
            TamedClassSet x = plain();
            expect.due("its number", x.addField(0, how, INT), 0);
            method(x, 0, 0, 0, INT, INT, LOAD, 0, LOAD, 1, PUT, 0, LOAD, 1, RETURN, 0);
            expect.due("PUT, how " + how, x.check(), put[how]);
            TamedClassSet y = plain();
            y.addField(0, how, INT);
            method(y, 0, STATIC, 0, INT, INT, LOAD, 0, PUTS, 0, LOAD, 0, RETURN, 0);
            expect.due("PUTS, how " + how, y.check(), puts[how]);
        }
    }

    private static void addedMethod() {
        expect.sentence("4: Adds a method without instructions to class cls, how: 1 if it is static, else 0, and answers its number.");
        TamedClassSet x = plain();
        x.addClass(-1, 0);
        expect.due("its number", x.addMethod(1, 0, 3, INT, type(1)), 0);
        expect.due("its number", x.addMethod(0, 1, 3, INT, type(1)), 1);
        expect.due("the first has no instructions", x.check(), DOES_NOT_FIT);
        code(x, 0, LOAD, 0, RETURN, 0);
        expect.due("the second has none either", x.check(), DOES_NOT_FIT + 1);
        code(x, 1, MAKE, 1, RETURN, 0);
        sealed(x);
        expect.due("not static: the receiver, then the parameter", x.typesAt(0, 0), types(on(), type(1), INT));
        expect.due("static: the parameter", x.typesAt(1, 0), types(on(), INT));
        expect.due("static", x.run(1, 0, 0), OBJECT);
        expect.due("not static", x.run(0, 0, 0), OBJECT);
    }
}
