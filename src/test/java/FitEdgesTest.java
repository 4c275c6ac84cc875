import java.util.Arrays;

/** The boundary cases of code that fits its types (rule 4) and of promise 8, each under the sentence that names it. */
public final class FitEdgesTest extends Sets {
    private static final int FITS = 0, UNFIT = 4000;
    private static final int BAD = TamedClassSet.BAD;
    private static final int LEAST = Integer.MIN_VALUE, MOST = Integer.MAX_VALUE;
    private static final Expect expect = new Expect();

    public static void main(String[] args) {
        fitting();
        threeLocals();
        fourValues();
        beginning();
        loadOfUnset();
        storeOfAnyType();
        wrongLocals();
        wrongInstructions();
        wrongClasses();
        wrongFields();
        wrongStaticFields();
        wrongMethods();
        wrongFunctions();
        numbersNotLookedAt();
        typesPut();
        nothingPut();
        findsWhatItTakes();
        ofTheTypesThatItWants();
        behindTheLast();
        onSomeWay();
        sameStackOnEveryWay();
        sameLocalsOnEveryWay();
        behindZeroBothWays();
        withoutInstructions();
        sumOfTypes();
        noTypesWhenOpen();
        noSuchInstruction();
        expect.end();
    }

    /** 0 <- 1, 2 and 3 beside; fields: 0 an int of 0, 1 a static int, 2 a cell of 2, 3 a class 0 of 2, final. */
    private static TamedClassSet set() {
        TamedClassSet x = new TamedClassSet();
        x.addClass(-1, 0);
        x.addClass(0, 0);
        x.addClass(-1, 0);
        x.addClass(-1, 0);
        x.addField(0, 0, INT);
        x.addField(0, STATIC + FINAL, INT);
        x.addField(2, 0, CELL_TYPE);
        x.addField(2, FINAL, type(0));
        return x;
    }

    /** Checks one static method of class 0, which is method 0. */
    private static void fit(String what, int due, int param, int result, int... code) {
        TamedClassSet x = set();
        method(x, 0, STATIC, 0, param, result, code);
        expect.due(what, x.check(), due);
    }

    private static int[] joined(int[]... parts) {
        int length = 0;
        for (int[] part : parts) length += part.length;
        int[] all = new int[length];
        int at = 0;
        for (int[] part : parts) {
            System.arraycopy(part, 0, all, at, part.length);
            at += part.length;
        }
        return all;
    }

    private static int[] pushes(int n) {
        int[] code = new int[2 * n];
        for (int k = 0; k < n; k++) code[2 * k + 1] = k;
        return code;
    }

    /** Eight classes in one line, and a method that returns its parameter. */
    private static int passing(int param, int result) {
        TamedClassSet x = new TamedClassSet();
        for (int c = 0; c < 8; c++) x.addClass(c - 1, 0);
        method(x, 0, STATIC, 0, param, result, LOAD, 0, RETURN, 0);
        return x.check();
    }

    private static void fitting() {
        expect.sentence("Type s FITS type t when they are the same, or both are classes and s is under t.");
        for (int s = 0; s < 10; s++) {
            for (int t = 0; t < 10; t++) {
                boolean fits = s == t || s >= 2 && t >= 2 && s > t;
                expect.due("type " + s + " where " + t + " is due", passing(s, t), fits ? FITS : UNFIT);
            }
        }
    }

    private static void threeLocals() {
        expect.sentence("it has three LOCALS, 0 .. 2");
        for (int local = 0; local < 3; local++) {
            fit("STORE and LOAD " + local, FITS, -1, INT, PUSH, 1, STORE, local, LOAD, local, RETURN, 0);
        }
        fit("STORE 3", UNFIT, -1, INT, PUSH, 1, STORE, 3, PUSH, 1, RETURN, 0);
        fit("all three at once", FITS, -1, INT, PUSH, 1, STORE, 0, PUSH, 2, STORE, 1, PUSH, 3, STORE, 2, LOAD, 0, LOAD, 1, LOAD, 2, RETURN, 0);
    }

    private static void fourValues() {
        expect.sentence("and a STACK of at most 4 values");
        int[][] putters = {{PUSH, 1}, {LOAD, 0}, {MAKE, 3}, {GETS, 1}, {NUL, 0}, {CALL, 1}};
        int[] end = {JUMP, 0};
        for (int[] put : putters) {
            for (int before = 3; before <= 4; before++) {
                TamedClassSet x = set();
                int[] back = {STORE, 1, ZERO, before + 3, ZERO, before + 4, PUSH, 1, RETURN, 0};
                method(x, 0, STATIC, 0, INT, INT, joined(pushes(before), put, back));
                method(x, 0, STATIC, 1, -1, INT, PUSH, 1, RETURN, 0);
                expect.due("op " + put[0] + " onto " + before + " values", x.check(), before == 3 ? FITS : UNFIT);
            }
        }
        int[][] exchangers = {{ADD, 0}, {SUB, 0}, {CELL, 0}, {LIBRARY, 1}, {CELL, 0, READ, 0}, {MAKE, 0}, {MAKE, 1, GET, 0}, {CALL, 0}};
        for (int[] exchange : exchangers) {
            TamedClassSet x = set();
            int[] rest = {STORE, 1, RETURN, 0};
            method(x, 0, STATIC, 0, INT, INT, joined(pushes(4), exchange, rest));
            expect.due("four values and op " + exchange[0], x.check(), FITS);
        }
        fit("a fifth on a way that goes on for ever", UNFIT, -1, INT, joined(pushes(5), end));
        fit("a fifth on the way behind ZERO", UNFIT, INT, INT, LOAD, 0, ZERO, 4, PUSH, 1, RETURN, 0, PUSH, 1, PUSH, 1, PUSH, 1, PUSH, 1, PUSH, 1, RETURN, 0);
    }

    private static void beginning() {
        expect.sentence("At its beginning the stack is empty, the receiver, if there is one, is in local 0, the parameter, if there is one, in the next local, and the other locals are unset.");
        TamedClassSet x = set();
        int[] code = {PUSH, 1, RETURN, 0};
        method(x, 2, STATIC, 0, -1, INT, code);
        method(x, 2, STATIC, 1, CELL_TYPE, INT, code);
        method(x, 2, 0, 2, -1, INT, code);
        method(x, 2, 0, 3, CELL_TYPE, INT, code);
        method(x, 0, 0, 4, INT, INT, code);
        expect.due("check()", x.check(), FITS);
        int[] due = {0, 0x20000, 0x50000, 0x250000, 0x130000};
        for (int m = 0; m < due.length; m++) expect.due("typesAt(" + m + ", 0)", x.typesAt(m, 0), due[m]);
    }

    private static void loadOfUnset() {
        expect.sentence("1 LOAD: -> the value of local a, which must be set");
        for (int local = 0; local < 3; local++) {
            for (int kind = 0; kind < 4; kind++) {
                int set = kind == 0 ? 0 : kind == 3 ? 2 : 1;
                int[][] codes = {{LOAD, local, STORE, 2, PUSH, 1, RETURN, 0}, {LOAD, local, PUSH, 1, RETURN, 0}, {LOAD, local, JUMP, 1}};
                for (int[] code : codes) {
                    TamedClassSet x = set();
                    method(x, 0, kind < 2 ? STATIC : 0, 0, kind % 2 == 0 ? -1 : INT, INT, code);
                    expect.due("LOAD " + local + " where " + set + " are set", x.check(), local < set ? FITS : UNFIT);
                }
            }
        }
    }

    private static void storeOfAnyType() {
        expect.sentence("2 STORE: v -> , local a becomes v (of whatever type)");
        int[] types = {INT, CELL_TYPE, type(0), type(2)};
        for (int first : types) {
            for (int second : types) {
                TamedClassSet x = set();
                method(x, 0, 0, 0, first, second, NUL, 3, STORE, 2, LOAD, 1, STORE, 2, LOAD, 2, RETURN, 0);
                expect.due("the type stored is " + first + ", due " + second, x.check(), first == second ? FITS : UNFIT);
            }
        }
    }

    private static void wrongLocals() {
        expect.sentence("Where a must be the number of a local .. any other number does not fit.");
        int[] wrong = {LEAST, -1, 3, 4, 16, MOST};
        for (int a : wrong) {
            fit("LOAD " + a, UNFIT, INT, INT, LOAD, a, RETURN, 0);
            fit("STORE " + a, UNFIT, INT, INT, PUSH, 1, STORE, a, PUSH, 1, RETURN, 0);
        }
        fit("LOAD 2", FITS, INT, INT, PUSH, 1, STORE, 2, LOAD, 2, RETURN, 0);
    }

    private static void wrongInstructions() {
        expect.sentence("Where a must be the number of .. an instruction of the same method .. any other number does not fit.");
        int[] wrong = {LEAST, -1, 3, 4, 11, 12, MOST};
        for (int a : wrong) {
            TamedClassSet x = set();
            method(x, 0, STATIC, 0, INT, INT, PUSH, 1, ZERO, 0, JUMP, a);
            method(x, 0, STATIC, 1, INT, INT, LOAD, 0, LIBRARY, 1, LIBRARY, 1, LIBRARY, 1, RETURN, 0);
            expect.due("JUMP " + a + " in code of three", x.check(), UNFIT);
            x = set();
            method(x, 0, STATIC, 0, INT, INT, PUSH, 1, ZERO, a, JUMP, 0);
            method(x, 0, STATIC, 1, INT, INT, LOAD, 0, LIBRARY, 1, LIBRARY, 1, LIBRARY, 1, RETURN, 0);
            expect.due("ZERO " + a + " in code of three", x.check(), UNFIT);
        }
        for (int a = 0; a < 3; a += 2) {
            fit("JUMP " + a, FITS, INT, INT, PUSH, 1, ZERO, 2, JUMP, a);
            fit("ZERO " + a, FITS, INT, INT, PUSH, 1, ZERO, a, JUMP, 0);
        }
        fit("JUMP 11, the twelfth", FITS, INT, INT, JUMP, 11, JUMP, 0, JUMP, 1, JUMP, 2, JUMP, 3, JUMP, 4, JUMP, 5, JUMP, 6, JUMP, 7, JUMP, 8, JUMP, 9, JUMP, 10);
        fit("JUMP 12 of twelve", UNFIT, INT, INT, JUMP, 12, JUMP, 0, JUMP, 1, JUMP, 2, JUMP, 3, JUMP, 4, JUMP, 5, JUMP, 6, JUMP, 7, JUMP, 8, JUMP, 9, JUMP, 10);
    }

    private static void wrongClasses() {
        expect.sentence("Where a must be the number of .. a class .. any other number does not fit.");
        int[] wrong = {LEAST, -2, -1, 4, 5, 8, MOST};
        for (int a : wrong) {
            fit("MAKE " + a, UNFIT, INT, INT, MAKE, a, STORE, 1, PUSH, 1, RETURN, 0);
            fit("NULL " + a, UNFIT, INT, INT, NUL, a, STORE, 1, PUSH, 1, RETURN, 0);
        }
        fit("MAKE 3, the last one", FITS, INT, type(3), MAKE, 3, RETURN, 0);
        fit("NULL 3, the last one", FITS, INT, type(3), NUL, 3, RETURN, 0);
        TamedClassSet x = new TamedClassSet();
        for (int c = 0; c < 8; c++) x.addClass(-1, 0);
        method(x, 0, STATIC, 0, -1, type(7), MAKE, 7, RETURN, 0);
        method(x, 0, STATIC, 1, -1, type(7), NUL, 7, RETURN, 0);
        expect.due("class 7", x.check(), FITS);
    }

    private static void wrongFields() {
        expect.sentence("Where a must be the number of .. a field that is not static (7 to 9: GET, PUT) .. any other number does not fit.");
        int[] wrong = {LEAST, -1, 1, 4, 12, MOST};
        for (int a : wrong) {
            fit("GET " + a, UNFIT, type(0), INT, LOAD, 0, GET, a, RETURN, 0);
            fit("PUT " + a, UNFIT, type(0), INT, LOAD, 0, PUSH, 1, PUT, a, PUSH, 1, RETURN, 0);
        }
        fit("GET 0", FITS, type(0), INT, LOAD, 0, GET, 0, RETURN, 0);
        fit("PUT 0", FITS, type(0), INT, LOAD, 0, PUSH, 1, PUT, 0, PUSH, 1, RETURN, 0);
        fit("GET 3, the last one", FITS, type(2), type(0), LOAD, 0, GET, 3, RETURN, 0);
        TamedClassSet x = plain();
        for (int f = 0; f < 12; f++) x.addField(0, 0, INT);
        method(x, 0, 0, 0, INT, INT, LOAD, 0, LOAD, 1, PUT, 11, LOAD, 0, GET, 11, RETURN, 0);
        expect.due("field 11", x.check(), FITS);
    }

    private static void wrongStaticFields() {
        expect.sentence("Where a must be the number of .. a static one (GETS, PUTS) .. any other number does not fit.");
        int[] wrong = {LEAST, -1, 0, 2, 3, 4, 12, MOST};
        for (int a : wrong) {
            fit("GETS " + a, UNFIT, INT, INT, GETS, a, STORE, 1, PUSH, 1, RETURN, 0);
            fit("PUTS " + a, UNFIT, INT, INT, PUSH, 1, PUTS, a, PUSH, 1, RETURN, 0);
        }
        fit("PUTS of a cell into a field of objects", UNFIT, CELL_TYPE, INT, LOAD, 0, PUTS, 2, PUSH, 1, RETURN, 0);
        fit("PUTS of an object into a final field of objects", UNFIT, type(0), INT, LOAD, 0, PUTS, 3, PUSH, 1, RETURN, 0);
        fit("GETS 1", FITS, INT, INT, GETS, 1, RETURN, 0);
        fit("PUTS 1 fits; rule 6 refuses it", 6001, INT, INT, PUSH, 1, PUTS, 1, PUSH, 1, RETURN, 0);
        TamedClassSet x = plain();
        for (int f = 0; f < 12; f++) x.addField(0, STATIC + FINAL, INT);
        method(x, 0, STATIC, 0, INT, INT, GETS, 11, RETURN, 0);
        expect.due("field 11", x.check(), FITS);
    }

    private static void wrongMethods() {
        expect.sentence("Where a must be the number of .. a method .. any other number does not fit.");
        int[] wrong = {LEAST, -1, 1, 2, 8, MOST};
        for (int a : wrong) {
            fit("CALL " + a, UNFIT, -1, INT, CALL, a, RETURN, 0);
            fit("CALL " + a + " with an argument", UNFIT, -1, INT, PUSH, 1, CALL, a, RETURN, 0);
            fit("CALL " + a + " with a receiver", UNFIT, -1, INT, PUSH, 1, NUL, 0, CALL, a, PUSH, 1, RETURN, 0);
            fit("CALL " + a + " with both", UNFIT, -1, INT, NUL, 0, PUSH, 1, CALL, a, PUSH, 1, RETURN, 0);
        }
        fit("CALL of itself", FITS, -1, INT, CALL, 0, RETURN, 0);
        TamedClassSet x = set();
        for (int m = 0; m < 8; m++) method(x, 0, STATIC, m, -1, INT, CALL, 7 - m, RETURN, 0);
        expect.due("CALL 7", x.check(), FITS);
    }

    private static void wrongFunctions() {
        expect.sentence("Where a must be the number of .. a function 0 .. 3, any other number does not fit.");
        int[] wrong = {LEAST, -1, 4, 5, MOST};
        for (int a : wrong) fit("LIBRARY " + a, UNFIT, INT, INT, LOAD, 0, LIBRARY, a, RETURN, 0);
        for (int a = 0; a < 4; a++) fit("LIBRARY " + a, a < 2 ? FITS : 5001, INT, INT, LOAD, 0, LIBRARY, a, RETURN, 0);
    }

    private static void numbersNotLookedAt() {
        expect.sentence("INSTRUCTIONS (op and a number a; .. )");
        int[] any = {LEAST, -1, 0, 12, 99, MOST};
        for (int a : any) {
            fit("PUSH, ADD, SUB, RETURN " + a, FITS, -1, INT, PUSH, a, PUSH, a, ADD, a, PUSH, a, SUB, a, RETURN, a);
            fit("CELL, READ, WRITE, SAME " + a, FITS, -1, INT, PUSH, a, CELL, a, STORE, 0, LOAD, 0, PUSH, a, WRITE, a, LOAD, 0, LOAD, 0, READ, a, CELL, a, SAME, a, RETURN, a);
        }
    }

    private static void typesPut() {
        expect.sentence("What is put on the stack has the type told: a local's type is that of the value stored, GET and GETS give the field's type, MAKE and NULL class a, CALL the method's result.");
        TamedClassSet x = set();
        x.addClass(-1, 2);
        x.addField(2, STATIC + FINAL, type(4));
        int m = method(x, 2, 0, 0, type(1), INT, LOAD, 1, STORE, 2, LOAD, 2, GETS, 4, LOAD, 0, GET, 3, PUSH, 7, MAKE, 1, SAME, 0, RETURN, 0);
        method(x, 2, 0, 1, -1, type(3), LOAD, 0, GET, 2, NUL, 1, MAKE, 3, RETURN, 0);
        method(x, 2, 0, 2, -1, INT, LOAD, 0, CALL, 1, NUL, 2, SAME, 0, RETURN, 0);
        expect.due("check()", x.check(), FITS);
        int[] due = {0x0450000, 0x0450004, 0x4450000, 0x4450004, 0x4450074, 0x4450574, 0x4450374, 0x4451374, 0x4454374, 0x4450174};
        for (int i = 0; i < due.length; i++) expect.due("typesAt(0, " + i + ")", x.typesAt(m, i), due[i]);
        int[] dueOfNext = {0x50000, 0x50005, 0x50002, 0x50042, 0x50642};
        for (int i = 0; i < dueOfNext.length; i++) expect.due("typesAt(1, " + i + ")", x.typesAt(1, i), dueOfNext[i]);
        int[] dueOfLast = {0x50000, 0x50005, 0x50006, 0x50056, 0x50001};
        for (int i = 0; i < dueOfLast.length; i++) expect.due("typesAt(2, " + i + ")", x.typesAt(2, i), dueOfLast[i]);
    }

    private static void nothingPut() {
        expect.sentence("what is taken from the stack stands before the arrow, the topmost last; what is put on it behind the arrow");
        TamedClassSet x = set();
        method(x, 2, 0, 0, CELL_TYPE, INT, LOAD, 0, LOAD, 1, PUT, 2, LOAD, 1, PUSH, 3, WRITE, 0, PUSH, 4, ZERO, 8, JUMP, 9, PUSH, 5, STORE, 2, JUMP, 11);
        expect.due("check()", x.check(), FITS);
        int[] due = {0x250000, 0x250005, 0x250025, 0x250000, 0x250002, 0x250012, 0x250000, 0x250001, 0x250000, 0x250000, 0x250001, 0x1250000};
        for (int i = 0; i < due.length; i++) expect.due("typesAt(0, " + i + ")", x.typesAt(0, i), due[i]);
        fit("PUTS puts nothing: room for one more", 6004, -1, INT, PUSH, 1, PUSH, 1, PUSH, 1, PUSH, 1, PUTS, 1, PUSH, 1, RETURN, 0);
        fit("PUTS puts nothing: none is left", UNFIT, -1, INT, PUSH, 1, PUTS, 1, RETURN, 0);
    }

    /** Instructions, each with its number and what it takes, the lowest value first. */
    private static final int[][] TAKERS = {
        {STORE, 1, INT}, {ADD, 0, INT, INT}, {SUB, 0, INT, INT}, {ZERO, 11, INT}, {MAKE, 1, INT}, {MAKE, 2, CELL_TYPE, 2},
        {GET, 0, 2}, {GET, 3, 4}, {PUT, 0, 2, INT}, {PUT, 2, 4, CELL_TYPE}, {PUTS, 1, INT}, {CALL, 1, 4, CELL_TYPE}, {CALL, 2, 2}, {CALL, 3, INT},
        {CELL, 0, INT}, {READ, 0, CELL_TYPE}, {WRITE, 0, CELL_TYPE, INT}, {SAME, 0, 2, 2}, {LIBRARY, 0, INT}, {RETURN, 0, INT}};

    /** Method 0 puts values of the types told on the stack; the methods 1 to 3 are there to be called. */
    private static TamedClassSet having(int[] types) {
        TamedClassSet x = set();
        x.addMethod(0, STATIC, 0, CELL_TYPE, INT);
        method(x, 2, 0, 1, CELL_TYPE, INT, PUSH, 1, RETURN, 0);
        method(x, 0, 0, 2, -1, INT, PUSH, 1, RETURN, 0);
        method(x, 0, STATIC, 3, INT, INT, PUSH, 1, RETURN, 0);
        for (int type : types) {
            if (type == INT) code(x, 0, PUSH, 1);
            else if (type == CELL_TYPE) code(x, 0, LOAD, 0);
            else code(x, 0, NUL, type - 2);
        }
        return x;
    }

    /** Behind the instruction comes an endless way that needs nothing. */
    private static int taken(int[] types, int op, int a) {
        TamedClassSet x = having(types);
        int next = types.length + 1;
        x.emit(0, op, op == ZERO ? next : a);
        if (op != RETURN) code(x, 0, JUMP, next);
        return x.check();
    }

    private static int[] typesOf(int[] taker) {
        return Arrays.copyOfRange(taker, 2, taker.length);
    }

    private static void findsWhatItTakes() {
        expect.sentence("every instruction finds what it takes");
        for (int[] taker : TAKERS) {
            int[] types = typesOf(taker);
            String what = "op " + taker[0] + " " + taker[1];
            boolean intoFinal = taker[0] == PUTS;
            expect.due(what + " with all", taken(types, taker[0], taker[1]), intoFinal ? 6000 + types.length : FITS);
            expect.due(what + " without the lowest", taken(Arrays.copyOfRange(types, 1, types.length), taker[0], taker[1]), UNFIT);
            expect.due(what + " on the empty stack", taken(new int[0], taker[0], taker[1]), UNFIT);
        }
    }

    /** Every taken value in turn is replaced by one of each type that does not fit. */
    private static void ofTheTypesThatItWants() {
        expect.sentence("of the types that it wants");
        for (int[] taker : TAKERS) {
            if (taker[0] == STORE) continue;
            for (int k = 2; k < taker.length; k++) {
                for (int type = 0; type < 6; type++) {
                    int[] types = typesOf(taker);
                    types[k - 2] = type;
                    boolean fits = taker[0] == SAME ? type != INT : type == taker[k] || taker[k] == 2 && type == 3;
                    int due = !fits ? UNFIT : taker[0] == PUTS ? 6001 : FITS;
                    expect.due("op " + taker[0] + " " + taker[1] + " with type " + type + " as value " + (k - 2), taken(types, taker[0], taker[1]), due);
                }
            }
        }
    }

    private static void behindTheLast() {
        expect.sentence("no way leads behind the last instruction");
        for (int[] taker : TAKERS) {
            if (taker[0] == RETURN || taker[0] == PUTS) continue;
            TamedClassSet x = having(typesOf(taker));
            x.emit(0, taker[0], taker[0] == ZERO ? 0 : taker[1]);
            expect.due("op " + taker[0] + " as the last", x.check(), UNFIT);
        }
        int[][] putters = {{PUSH, 1}, {LOAD, 0}, {GETS, 1}, {NUL, 0}, {MAKE, 3}};
        for (int[] put : putters) fit("op " + put[0] + " as the last", UNFIT, INT, INT, put);
        fit("JUMP as the last", FITS, -1, INT, JUMP, 0);
        fit("RETURN as the last", FITS, -1, INT, PUSH, 1, RETURN, 0);
        fit("the twelfth is no end", UNFIT, INT, INT, LOAD, 0, LIBRARY, 0, LIBRARY, 0, LIBRARY, 0, LIBRARY, 0, LIBRARY, 0, LIBRARY, 0, LIBRARY, 0, LIBRARY, 0, LIBRARY, 0, LIBRARY, 0, LIBRARY, 0);
        fit("the twelfth is an end", FITS, INT, INT, LOAD, 0, LIBRARY, 0, LIBRARY, 0, LIBRARY, 0, LIBRARY, 0, LIBRARY, 0, LIBRARY, 0, LIBRARY, 0, LIBRARY, 0, LIBRARY, 0, LIBRARY, 0, RETURN, 0);
    }

    private static void onSomeWay() {
        expect.sentence("every instruction lies on some way");
        fit("behind RETURN", UNFIT, -1, INT, PUSH, 1, RETURN, 0, JUMP, 0);
        fit("behind JUMP", UNFIT, -1, INT, JUMP, 2, JUMP, 0, JUMP, 0);
        fit("only from one that lies on none", UNFIT, -1, INT, JUMP, 0, JUMP, 2, JUMP, 1);
        fit("only behind ZERO", FITS, INT, INT, LOAD, 0, ZERO, 3, JUMP, 0, JUMP, 0);
        fit("the second of twelve", UNFIT, INT, INT, JUMP, 11, JUMP, 2, JUMP, 0, JUMP, 2, JUMP, 3, JUMP, 4, JUMP, 5, JUMP, 6, JUMP, 7, JUMP, 8, JUMP, 9, JUMP, 10);
        fit("the last of twelve", UNFIT, INT, INT, JUMP, 10, JUMP, 0, JUMP, 1, JUMP, 2, JUMP, 3, JUMP, 4, JUMP, 5, JUMP, 6, JUMP, 7, JUMP, 8, JUMP, 9, JUMP, 0);
        fit("all of twelve", FITS, INT, INT, JUMP, 11, JUMP, 0, JUMP, 1, JUMP, 2, JUMP, 3, JUMP, 4, JUMP, 5, JUMP, 6, JUMP, 7, JUMP, 8, JUMP, 9, JUMP, 10);
    }

    /** One way goes through the first code, the other through the second; they meet behind it, at an endless JUMP. */
    private static void meet(String what, int due, int[] first, int[] second) {
        int[] zero = {LOAD, 0, ZERO, 3 + first.length / 2};
        int[] toMeeting = {JUMP, 3 + first.length / 2 + second.length / 2};
        fit(what, due, INT, INT, joined(zero, first, toMeeting, second, toMeeting));
    }

    private static void sameStackOnEveryWay() {
        expect.sentence("whichever way leads to an instruction, the types of the stack .. are the same there");
        for (int depth = 1; depth <= 4; depth++) {
            meet(depth + " values and " + depth, FITS, pushes(depth), pushes(depth));
            meet(depth + " values and one less", UNFIT, pushes(depth), pushes(depth - 1));
            meet("one less and " + depth + " values", UNFIT, pushes(depth - 1), pushes(depth));
        }
        int[] objects = {NUL, 0, NUL, 0, NUL, 0};
        for (int k = 0; k < 3; k++) {
            int[] other = objects.clone();
            other[2 * k] = PUSH;
            meet("an object and an int as value " + k, UNFIT, objects, other);
            other[2 * k] = NUL;
            other[2 * k + 1] = 1;
            meet("a class and one under it as value " + k, UNFIT, objects, other);
            meet("a class and its parent as value " + k, UNFIT, other, objects);
        }
        meet("the same objects", FITS, objects, objects);
        for (int cls = 0; cls < 2; cls++) {
            fit("class " + cls + " and 1 as value 3", cls == 1 ? FITS : UNFIT, INT, INT,
                    NUL, 0, NUL, 0, NUL, 0, LOAD, 0, ZERO, 7, NUL, cls, JUMP, 8, NUL, 1, JUMP, 8);
        }
        fit("back to the first with a value more", UNFIT, -1, INT, PUSH, 1, JUMP, 0);
    }

    private static void sameLocalsOnEveryWay() {
        expect.sentence("and of the three locals (unset or which type) are the same there");
        for (int local = 0; local < 3; local++) {
            int[] nothing = {};
            int[] setInt = {PUSH, 1, STORE, local};
            int[] setParent = {NUL, 0, STORE, local};
            int[] setChild = {NUL, 1, STORE, local};
            meet("local " + local + ": int and int", FITS, setInt, setInt);
            meet("local " + local + ": as it was, or int", local == 0 ? FITS : UNFIT, nothing, setInt);
            meet("local " + local + ": int, or as it was", local == 0 ? FITS : UNFIT, setInt, nothing);
            meet("local " + local + ": int and object", UNFIT, setInt, setParent);
            meet("local " + local + ": a class and one under it", UNFIT, setParent, setChild);
            meet("local " + local + ": a class and its parent", UNFIT, setChild, setParent);
            meet("local " + local + ": the same class", FITS, setChild, setChild);
        }
        fit("back to the first with a local more", UNFIT, -1, INT, PUSH, 1, STORE, 2, JUMP, 0);
        fit("back to the first with the local as it was", FITS, INT, INT, PUSH, 1, STORE, 0, JUMP, 0);
    }

    private static void behindZeroBothWays() {
        expect.sentence("going from instruction 0 along all ways (behind ZERO both ways)");
        fit("both ways fit", FITS, INT, INT, LOAD, 0, ZERO, 4, PUSH, 1, RETURN, 0, PUSH, 1, RETURN, 0);
        fit("the way of 0 does not", UNFIT, INT, INT, LOAD, 0, ZERO, 4, PUSH, 1, RETURN, 0, NUL, 0, RETURN, 0);
        fit("the other way does not", UNFIT, INT, INT, LOAD, 0, ZERO, 4, NUL, 0, RETURN, 0, PUSH, 1, RETURN, 0);
        fit("a constant that is never 0", UNFIT, INT, INT, PUSH, 1, ZERO, 4, PUSH, 1, RETURN, 0, NUL, 0, RETURN, 0);
        fit("a constant that is always 0", UNFIT, INT, INT, PUSH, 0, ZERO, 4, NUL, 0, RETURN, 0, PUSH, 1, RETURN, 0);
        fit("ZERO to the next", FITS, INT, INT, LOAD, 0, ZERO, 2, PUSH, 1, RETURN, 0);
        for (int local = 0; local < 3; local++) {
            fit("the way of 0 needs local " + local + ", the other changes it", FITS, -1, INT, PUSH, 1, STORE, local, PUSH, 1, ZERO, 7,
                    NUL, 0, STORE, local, JUMP, 6, JUMP, 8, JUMP, 9, LOAD, local, RETURN, 0);
            fit("the way of 0 changes local " + local + ", the other needs it", FITS, -1, INT, PUSH, 1, STORE, local, PUSH, 1, ZERO, 8,
                    JUMP, 5, JUMP, 6, LOAD, local, RETURN, 0, NUL, 0, STORE, local, JUMP, 10);
        }
        fit("ZERO to itself with a value less", UNFIT, INT, INT, PUSH, 1, PUSH, 1, ZERO, 2, RETURN, 0);
    }

    private static void withoutInstructions() {
        expect.sentence("A method without instructions does not fit.");
        TamedClassSet x = plain();
        x.addMethod(0, 0, 0, -1, type(0));
        expect.due("alone", x.check(), 4000);
        x.addMethod(0, STATIC, 1, -1, INT);
        code(x, 0, LOAD, 0, RETURN, 0);
        expect.due("behind one that fits", x.check(), 4001);
        code(x, 1, PUSH, 0, RETURN, 0);
        expect.due("with instructions now", x.check(), 0);
        x = plain();
        for (int m = 0; m < 8; m++) x.addMethod(0, STATIC, m, -1, INT);
        for (int m = 0; m < 7; m++) code(x, m, PUSH, 0, RETURN, 0);
        expect.due("the eighth", x.check(), 4007);
    }

    private static void sumOfTypes() {
        expect.sentence("8: the sum of (type + 1) * 16^k for the stack's values, k = 0 the lowest one, and of (type + 1) * 65536 * 16^l for the locals l that are set");
        TamedClassSet x = new TamedClassSet();
        for (int c = 0; c < 8; c++) x.addClass(-1, 0);
        method(x, 7, 0, 0, 9, 9, LOAD, 0, STORE, 2, LOAD, 0, LOAD, 1, LOAD, 2, LOAD, 0, RETURN, 0);
        method(x, 0, STATIC, 0, -1, INT, PUSH, 0, CELL, 0, NUL, 0, NUL, 7, PUSH, 0, RETURN, 0);
        method(x, 0, STATIC, 1, -1, INT, PUSH, 0, STORE, 2, PUSH, 0, STORE, 1, JUMP, 5, JUMP, 5);
        expect.due("check()", x.check(), 0);
        int[] due = {0xAA0000, 0xAA000A, 0xAAA0000, 0xAAA000A, 0xAAA00AA, 0xAAA0AAA, 0xAAAAAAA};
        for (int i = 0; i < due.length; i++) expect.due("typesAt(0, " + i + ")", x.typesAt(0, i), due[i]);
        int[] dueOfStack = {0, 1, 2, 0x32, 0xA32, 0x1A32};
        for (int i = 0; i < dueOfStack.length; i++) expect.due("typesAt(1, " + i + ")", x.typesAt(1, i), dueOfStack[i]);
        int[] dueOfLocals = {0, 1, 0x1000000, 0x1000001, 0x1100000, 0x1100000};
        for (int i = 0; i < dueOfLocals.length; i++) expect.due("typesAt(2, " + i + ")", x.typesAt(2, i), dueOfLocals[i]);
    }

    private static void noTypesWhenOpen() {
        expect.sentence("8: BAD when the set is not sealed");
        TamedClassSet x = plain();
        method(x, 0, STATIC, 0, INT, INT, LOAD, 0, RETURN, 0);
        expect.due("before check", x.typesAt(0, 0), BAD);
        x.addMethod(0, STATIC, 1, INT, INT);
        expect.due("check() of a broken rule", x.check(), 4001);
        expect.due("behind it", x.typesAt(0, 0), BAD);
        code(x, 1, LOAD, 0, RETURN, 0);
        expect.due("check()", x.check(), 0);
        expect.due("sealed", x.typesAt(0, 0), 0x10000);
        x.clear();
        expect.due("cleared", x.typesAt(0, 0), BAD);
        x.addClass(-1, 0);
        method(x, 0, STATIC, 0, INT, INT, LOAD, 0, RETURN, 0);
        expect.due("built again, not checked", x.typesAt(0, 0), BAD);
    }

    private static void noSuchInstruction() {
        expect.sentence("8: or there is no such instruction");
        TamedClassSet x = plain();
        method(x, 0, STATIC, 0, INT, INT, LOAD, 0, RETURN, 0);
        method(x, 0, STATIC, 1, INT, INT, LOAD, 0, LIBRARY, 0, RETURN, 0);
        x.check();
        int[] none = {LEAST, -12, -1, 2, 3, 11, 12, MOST};
        for (int i : none) expect.due("typesAt(0, " + i + ")", x.typesAt(0, i), BAD);
        int[] noMethod = {LEAST, -1, 2, 7, 8, MOST};
        for (int m : noMethod) expect.due("typesAt(" + m + ", 0)", x.typesAt(m, 0), BAD);
        expect.due("the last one", x.typesAt(1, 2), 0x10001);
        expect.due("behind it", x.typesAt(1, 3), BAD);
        x = new TamedClassSet();
        x.check();
        expect.due("a sealed set without methods", x.typesAt(0, 0), BAD);
        x = full();
        x.check();
        x.clear();
        x.addClass(-1, 0);
        method(x, 0, STATIC, 0, INT, INT, LOAD, 0, RETURN, 0);
        x.check();
        expect.due("the first one now", x.typesAt(0, 0), 0x10000);
        for (int i = 2; i < 12; i++) expect.due("one of the set before: typesAt(0, " + i + ")", x.typesAt(0, i), BAD);
        for (int m = 1; m < 8; m++) expect.due("one of the set before: typesAt(" + m + ", 0)", x.typesAt(m, 0), BAD);
        x = full();
        x.check();
        expect.due("the twelfth of the eighth", x.typesAt(7, 11), 0x10001);
        expect.due("a thirteenth of the eighth", x.typesAt(7, 12), BAD);
        expect.due("the first of a ninth", x.typesAt(8, 0), BAD);
    }
}
