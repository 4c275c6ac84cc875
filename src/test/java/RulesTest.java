/** Promise 6: check, with the rules 1, 2, 3, 5, 6 and 7 and their order; rule 4 has a test of its own. */
public final class RulesTest extends Sets {
    private static final Expect expect = new Expect();

    public static void main(String[] args) {
        sealing();
        staticFields();
        ownFields();
        overriding();
        libraries();
        puts();
        sames();
        order();
        expect.end();
    }

    private static void sealing() {
        TamedClassSet x = new TamedClassSet();
        expect.due("an empty set", x.check(), 0);
        expect.due("it is sealed", x.addClass(-1, 0), TamedClassSet.SEALED);
        expect.due("a sealed set", x.check(), 0);
        x = plain();
        x.addField(0, STATIC, INT);
        expect.due("a broken rule", x.check(), 1000);
        expect.due("again", x.check(), 1000);
        expect.due("not sealed then", x.addField(0, 0, INT), 1);
    }

    private static void staticField(String what, int how, int type, int due) {
        TamedClassSet x = new TamedClassSet();
        x.addClass(-1, 0);
        x.addClass(-1, 1);
        x.addClass(-1, 2);
        x.addClass(-1, 3);
        x.addClass(1, 0);
        x.addClass(2, 0);
        x.addClass(1, 2);
        x.addField(0, FINAL, INT);
        x.addField(0, how, type);
        expect.due("rule 1: " + what, x.check(), due);
    }

    private static void staticFields() {
        staticField("a static int, not final", STATIC, INT, 1001);
        staticField("a static final int", STATIC + FINAL, INT, 0);
        staticField("a static final cell", STATIC + FINAL, CELL_TYPE, 1001);
        staticField("of a class without marks", STATIC + FINAL, type(0), 1001);
        staticField("of a class that is only immutable", STATIC + FINAL, type(1), 1001);
        staticField("of a powerless class", STATIC + FINAL, type(2), 0);
        staticField("of a powerless class, not final", STATIC, type(2), 1001);
        staticField("of a class with both marks", STATIC + FINAL, type(3), 0);
        staticField("of a class under an immutable one", STATIC + FINAL, type(4), 1001);
        staticField("of a class under a powerless one", STATIC + FINAL, type(5), 0);
        staticField("of a powerless class under an immutable one", STATIC + FINAL, type(6), 0);
        staticField("a field that is not static", 0, CELL_TYPE, 0);
        TamedClassSet x = new TamedClassSet();
        x.addClass(-1, 1);
        x.addField(0, STATIC + FINAL, INT);
        x.addClass(-1, 3);
        x.addField(1, STATIC + FINAL, type(1));
        expect.due("rule 2 is not for static fields", x.check(), 0);
    }

    /** Class 0 has the field, class 1 is its child; class 2 is plain, 3 immutable, 4 powerless. */
    private static void ownField(String what, int marks, int childMarks, int how, int type, int due) {
        TamedClassSet x = new TamedClassSet();
        x.addClass(-1, marks);
        x.addClass(0, childMarks);
        x.addClass(-1, 0);
        x.addClass(-1, 1);
        x.addClass(-1, 2);
        x.addField(2, 0, CELL_TYPE);
        x.addField(0, how, type);
        expect.due("rule 2: " + what, x.check(), due);
    }

    private static void ownFields() {
        ownField("plain classes keep what they like", 0, 0, 0, CELL_TYPE, 0);
        for (int marks = 1; marks <= 3; marks++) {
            ownField("not final", marks, 0, 0, INT, 2001);
            ownField("a child's, not final", 0, marks, 0, INT, 2001);
            ownField("final", marks, 0, FINAL, INT, 0);
            ownField("a child's, final", 0, marks, FINAL, INT, 0);
            ownField("a cell", marks, 0, FINAL, CELL_TYPE, 2001);
            ownField("a child's cell", 0, marks, FINAL, CELL_TYPE, 2001);
            ownField("of a plain class", marks, 0, FINAL, type(2), 2001);
            ownField("a child's of a plain class", 0, marks, FINAL, type(2), 2001);
            ownField("of an immutable class", marks, 0, FINAL, type(3), marks == 1 ? 0 : 2001);
            ownField("a child's of an immutable class", 0, marks, FINAL, type(3), marks == 1 ? 0 : 2001);
            ownField("of a powerless class", marks, 0, FINAL, type(4), 0);
            ownField("a child's of a powerless class", 0, marks, FINAL, type(4), 0);
            ownField("of its own class", marks, 0, FINAL, type(0), 0);
        }
        ownField("of its own child, which alone is immutable", 0, 1, FINAL, type(1), 0);
        ownField("of itself, with an immutable child", 0, 1, FINAL, type(0), 2001);
        ownField("immutable, with a powerless child", 1, 2, FINAL, type(3), 2001);
        TamedClassSet x = new TamedClassSet();
        x.addClass(-1, 1);
        x.addClass(-1, 0);
        x.addClass(1, 0);
        x.addClass(2, 1);
        x.addField(2, 0, INT);
        expect.due("rule 2: a grandchild's", x.check(), 2000);
        x = new TamedClassSet();
        x.addClass(-1, 0);
        x.addClass(0, 1);
        x.addClass(0, 0);
        x.addField(2, 0, CELL_TYPE);
        expect.due("rule 2: a class beside an immutable one", x.check(), 0);
    }

    private static void override(String what, int[] first, int[] second, int due) {
        TamedClassSet x = new TamedClassSet();
        x.addClass(-1, 0);
        x.addClass(0, 0);
        x.addClass(1, 0);
        x.addClass(0, 0);
        for (int[] m : new int[][] {first, second}) {
            method(x, m[0], m[1], m[2], m[3], m[4], LOAD, 0, STORE, 0, JUMP, 0);
        }
        expect.due("rule 3: " + what, x.check(), due);
    }

    private static void overriding() {
        override("the same", new int[] {0, 0, 3, 0, 0}, new int[] {1, 0, 3, 0, 0}, 0);
        override("none and none", new int[] {0, 0, 3, -1, 0}, new int[] {1, 0, 3, -1, 0}, 0);
        override("other result", new int[] {0, 0, 3, 0, 0}, new int[] {1, 0, 3, 0, 1}, 3001);
        override("other parameter", new int[] {0, 0, 3, 0, 0}, new int[] {1, 0, 3, 1, 0}, 3001);
        override("a result that only fits", new int[] {0, 0, 3, 0, 2}, new int[] {1, 0, 3, 0, 3}, 3001);
        override("a parameter or none", new int[] {0, 0, 3, 0, 0}, new int[] {1, 0, 3, -1, 0}, 3001);
        override("the child's is static", new int[] {0, 0, 3, 0, 0}, new int[] {1, 1, 3, 0, 0}, 3001);
        override("the parent's is static", new int[] {0, 1, 3, 0, 0}, new int[] {1, 0, 3, 0, 0}, 3001);
        override("both are static", new int[] {0, 1, 3, 0, 0}, new int[] {1, 1, 3, 0, 0}, 3001);
        override("a grandchild's", new int[] {0, 0, 3, 0, 0}, new int[] {2, 0, 3, 1, 0}, 3001);
        override("the child's was added first", new int[] {1, 0, 3, 0, 0}, new int[] {0, 0, 3, 0, 1}, 3000);
        override("other names", new int[] {0, 0, 3, 0, 0}, new int[] {1, 0, 4, 1, 1}, 0);
        override("classes beside one another", new int[] {1, 0, 3, 0, 0}, new int[] {3, 0, 3, 1, 1}, 0);
        override("one class, two names", new int[] {1, 0, 3, 0, 0}, new int[] {1, 1, 4, 1, 1}, 0);
    }

    private static void libraries() {
        for (int function = 0; function < 4; function++) {
            TamedClassSet x = plain();
            method(x, 0, STATIC, 0, INT, INT, LOAD, 0, LIBRARY, 1, LIBRARY, 0, RETURN, 0);
            method(x, 0, STATIC, 1, INT, INT, LOAD, 0, LIBRARY, function, LIBRARY, function, RETURN, 0);
            expect.due("rule 5: function " + function, x.check(), function < 2 ? 0 : 5017);
        }
        TamedClassSet x = plain();
        method(x, 0, STATIC, 0, INT, INT, LOAD, 0, STORE, 2, LOAD, 2, RETURN, 0);
        expect.due("rule 5: a 2 that is no function", x.check(), 0);
    }

    private static void puts() {
        TamedClassSet x = plain();
        x.addField(0, 0, INT);
        method(x, 0, 0, 0, INT, INT, LOAD, 0, LOAD, 1, PUT, 0, LOAD, 0, GET, 0, RETURN, 0);
        expect.due("rule 6: a field that is not final", x.check(), 0);
        x = plain();
        x.addField(0, FINAL, INT);
        method(x, 0, 0, 0, INT, INT, LOAD, 0, GET, 0, RETURN, 0);
        method(x, 0, 0, 1, INT, INT, LOAD, 0, LOAD, 1, PUT, 0, PUSH, 0, RETURN, 0);
        expect.due("rule 6: PUT into a final field", x.check(), 6018);
        x = plain();
        x.addField(0, STATIC + FINAL, INT);
        method(x, 0, STATIC, 0, INT, INT, GETS, 0, PUTS, 0, PUSH, 0, RETURN, 0);
        expect.due("rule 6: PUTS into a final field", x.check(), 6001);
    }

    /** Class 0 plain, 1 immutable, 2 powerless, 3 under 1, 4 plain under nothing. */
    private static void same(String what, int first, int second, int due) {
        TamedClassSet x = new TamedClassSet();
        x.addClass(-1, 0);
        x.addClass(-1, 1);
        x.addClass(-1, 2);
        x.addClass(1, 0);
        x.addClass(-1, 0);
        int m = x.addMethod(0, STATIC, 0, CELL_TYPE, INT);
        code(x, m, PUSH, 1);
        for (int type : new int[] {first, second}) {
            if (type == CELL_TYPE) code(x, m, LOAD, 0);
            else code(x, m, NUL, type - 2);
        }
        code(x, m, SAME, 0, RETURN, 0);
        expect.due("rule 7: " + what, x.check(), due);
    }

    private static void sames() {
        same("two of plain classes", type(0), type(0), 0);
        same("of two plain classes", type(0), type(4), 0);
        same("two cells", CELL_TYPE, CELL_TYPE, 0);
        same("a cell and a plain class", CELL_TYPE, type(0), 0);
        same("two immutable ones", type(1), type(1), 7003);
        same("the topmost is immutable", type(0), type(1), 7003);
        same("the lower one is immutable", type(1), type(0), 7003);
        same("the topmost is powerless", CELL_TYPE, type(2), 7003);
        same("the lower one is under an immutable one", type(3), CELL_TYPE, 7003);
        TamedClassSet x = new TamedClassSet();
        x.addClass(-1, 1);
        x.addClass(-1, 0);
        method(x, 0, STATIC, 0, -1, INT, NUL, 0, NUL, 1, NUL, 1, SAME, 0, RETURN, 0);
        expect.due("rule 7: an immutable one below the two", x.check(), 0);
    }

    /** The first broken rule decides, whatever the places of the later ones; they are mended one by one. */
    private static void order() {
        for (int mended = 0; mended <= 7; mended++) {
            TamedClassSet x = new TamedClassSet();
            x.addClass(-1, 1);
            x.addClass(0, 0);
            x.addField(0, mended < 2 ? 0 : FINAL, INT);
            x.addField(0, mended < 2 ? 0 : FINAL, INT);
            x.addField(0, mended < 1 ? STATIC : STATIC + FINAL, INT);
            x.addField(0, mended < 1 ? STATIC : STATIC + FINAL, INT);
            int compare = mended < 7 ? SAME : ADD;
            int value = mended < 7 ? NUL : PUSH;
            method(x, 0, STATIC, 0, -1, INT, value, 0, value, 0, compare, 0, value, 0, value, 0, compare, 0, ADD, 0, RETURN, 0);
            if (mended < 6) method(x, 0, STATIC, 1, -1, INT, PUSH, 1, NUL, 0, PUSH, 1, PUT, 0, RETURN, 0);
            else method(x, 0, STATIC, 1, -1, INT, PUSH, 1, RETURN, 0);
            method(x, 0, STATIC, 2, INT, INT, LOAD, 0, LIBRARY, mended < 5 ? 3 : 1, LIBRARY, mended < 5 ? 2 : 0, RETURN, 0);
            method(x, 0, 0, 3, INT, INT, PUSH, 1, mended < 4 ? PUSH : RETURN, 1);
            method(x, 0, 0, 4, INT, INT, PUSH, 1, mended < 4 ? PUSH : RETURN, 1);
            method(x, 1, 0, 4, mended < 3 ? -1 : 0, INT, PUSH, 1, RETURN, 1);
            method(x, 1, 0, 3, mended < 3 ? -1 : 0, INT, PUSH, 1, RETURN, 1);
            int[] due = {1002, 2000, 3005, 4003, 5033, 6019, 7002, 0};
            expect.due("the first " + mended + " rules hold", x.check(), due[mended]);
        }
    }
}
