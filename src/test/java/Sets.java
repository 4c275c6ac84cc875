/** The instructions by name, and short ways to make sets; the tests extend it to have the names at hand. */
abstract class Sets {
    static final int PUSH = 0, LOAD = 1, STORE = 2, ADD = 3, SUB = 4, JUMP = 5, ZERO = 6, MAKE = 7, GET = 8, PUT = 9,
            GETS = 10, PUTS = 11, CALL = 12, CELL = 13, READ = 14, WRITE = 15, SAME = 16, NUL = 17, LIBRARY = 18, RETURN = 19;
    static final int STATIC = 1, FINAL = 2;
    static final int INT = 0, CELL_TYPE = 1;

    static int type(int cls) {
        return 2 + cls;
    }

    /** Emits the code, told as op, a, op, a, ... */
    static void code(TamedClassSet x, int method, int... code) {
        for (int k = 0; k < code.length; k += 2) x.emit(method, code[k], code[k + 1]);
    }

    /** Adds a method with its code and answers its number. */
    static int method(TamedClassSet x, int cls, int how, int name, int param, int result, int... code) {
        int method = x.addMethod(cls, how, name, param, result);
        code(x, method, code);
        return method;
    }

    /** A set as full as it can be, and no rule broken: 8 classes, 12 fields, 8 methods of 12 instructions. */
    static TamedClassSet full() {
        TamedClassSet x = new TamedClassSet();
        for (int c = 0; c < 8; c++) x.addClass(c - 1, 0);
        for (int f = 0; f < 12; f++) x.addField(f % 8, 0, f % 10);
        for (int m = 0; m < 8; m++) {
            x.addMethod(m, STATIC, m, INT, INT);
            code(x, m, LOAD, 0);
            for (int i = 1; i < 11; i++) code(x, m, LIBRARY, 0);
            code(x, m, RETURN, 0);
        }
        return x;
    }

    /** A set of one plain class. */
    static TamedClassSet plain() {
        TamedClassSet x = new TamedClassSet();
        x.addClass(-1, 0);
        return x;
    }
}
