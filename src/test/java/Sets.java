/** The instructions by name, and short ways to make sets; the tests extend it to have the names at hand. */
abstract class Sets {
    static final int PUSH = 0, LOAD = 1, STORE = 2, ADD = 3, SUB = 4, JUMP = 5, ZERO = 6, MAKE = 7, GET = 8, PUT = 9,
            GETS = 10, PUTS = 11, CALL = 12, CELL = 13, READ = 14, WRITE = 15, SAME = 16, NUL = 17, LIBRARY = 18, RETURN = 19;
    static final int STATIC = 1, FINAL = 2;
    static final int INT = 0, CELL_TYPE = 1;

    static int type(int cls) {
        return 2 + cls;
    }

    /** Emits the code, told as op, a, op, a, ... */
    static void code(TamedClassSet x, int method, int... code) {
        for (int k = 0; k < code.length; k += 2) x.emit(method, code[k], code[k + 1]);
    }

    /** Adds a method with its code and answers its number. */
    static int method(TamedClassSet x, int cls, int how, int name, int param, int result, int... code) {
        int method = x.addMethod(cls, how, name, param, result);
        code(x, method, code);
        return method;
    }

    /** A set of one plain class. */
    static TamedClassSet plain() {
        TamedClassSet x = new TamedClassSet();
        x.addClass(-1, 0);
        return x;
    }
}
