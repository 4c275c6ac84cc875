/** Promises 7, 10 and 11: clear, look, held. */
public final class HandlesTest extends Sets {
    private static final long NULL = TamedClassSet.NULL, OBJECT = TamedClassSet.OBJECT, UNHELD = TamedClassSet.UNHELD,
            REFUSED = TamedClassSet.REFUSED;
    private static final int BAD = TamedClassSet.BAD;
    private static final int[] NO_NUMBERS = {-1, 12, 16, Integer.MIN_VALUE, Integer.MAX_VALUE};
    private static final Expect expect = new Expect();

    public static void main(String[] args) {
        looks();
        looksAtCells();
        helds();
        clearing();
        clearingKeepsTheCounts();
        expect.end();
    }

    /** 0 <- 1, 2 beside; 0 has an int and a static int, 1 an object, 2 a cell. */
    private static TamedClassSet set() {
        TamedClassSet x = new TamedClassSet();
        x.addClass(-1, 0);
        x.addClass(0, 0);
        x.addClass(-1, 0);
        x.addField(1, 0, type(0));
        x.addField(0, STATIC + FINAL, INT);
        x.addField(0, 0, INT);
        x.addField(2, 0, CELL_TYPE);
        method(x, 0, STATIC, 0, INT, type(0), LOAD, 0, MAKE, 0, RETURN, 0);
        method(x, 0, STATIC, 1, type(0), type(0), LOAD, 0, PUSH, -4, MAKE, 1, RETURN, 0);
        method(x, 0, STATIC, 2, INT, type(2), LOAD, 0, CELL, 0, MAKE, 2, RETURN, 0);
        method(x, 2, 0, 3, -1, CELL_TYPE, LOAD, 0, GET, 3, RETURN, 0);
        method(x, 0, 0, 4, INT, INT, LOAD, 0, LOAD, 1, PUT, 2, PUSH, 0, RETURN, 0);
        method(x, 2, 0, 5, INT, INT, LOAD, 0, GET, 3, LOAD, 1, WRITE, 0, PUSH, 0, RETURN, 0);
        expect.due("check()", x.check(), 0);
        return x;
    }

    private static void looks() {
        TamedClassSet x = set();
        expect.due("nothing in it", x.look(0, 2), REFUSED);
        expect.due("an object", x.run(0, 0, Integer.MIN_VALUE), OBJECT);
        expect.due("a child of it", x.run(1, 0, 0), OBJECT + 1);
        expect.due("a child of null", x.run(1, 0, -1), OBJECT + 2);
        expect.due("an int", x.look(0, 2), Integer.MIN_VALUE);
        expect.due("the child's int", x.look(1, 2), -4);
        expect.due("an object", x.look(1, 0), OBJECT);
        expect.due("null", x.look(2, 0), NULL);
        expect.due("the child's field in the parent", x.look(0, 0), REFUSED);
        expect.due("a static field", x.look(0, 1), REFUSED);
        expect.due("a field of another class", x.look(1, 3), REFUSED);
        expect.due("no field 4", x.look(1, 4), REFUSED);
        for (int n : NO_NUMBERS) {
            expect.due("look(0, " + n + ")", x.look(0, n), REFUSED);
            expect.due("look(" + n + ", 2)", x.look(n, 2), REFUSED);
        }
        expect.due("look(3, 2)", x.look(3, 2), REFUSED);
        expect.due("a change", x.run(4, 1, 11), 0);
        expect.due("what is there now", x.look(1, 2), 11);
    }

    private static void looksAtCells() {
        TamedClassSet x = set();
        expect.due("an object with a cell", x.run(2, 0, -8), OBJECT);
        expect.due("the cell is in no handle", x.look(0, 3), UNHELD);
        expect.due("looking holds nothing", x.held(1), BAD);
        expect.due("the cell itself", x.run(3, 0, 0), OBJECT + 1);
        expect.due("the cell is in a handle", x.look(0, 3), OBJECT + 1);
        for (int n : NO_NUMBERS) expect.due("whatever field " + n, x.look(1, n), -8);
        for (int f = 0; f < 5; f++) expect.due("whatever field " + f, x.look(1, f), -8);
        expect.due("a change", x.run(5, 0, 9), 0);
        expect.due("what it holds now", x.look(1, 0), 9);
        expect.due("the same cell again", x.run(3, 0, 0), OBJECT + 1);
    }

    private static void helds() {
        TamedClassSet x = set();
        expect.due("held(0)", x.held(0), BAD);
        x.run(0, 0, 1);
        x.run(1, 0, 0);
        x.run(2, 0, 1);
        x.run(3, 2, 0);
        int[] due = {2, 3, 4, 1, BAD};
        for (int h = 0; h < due.length; h++) expect.due("held(" + h + ")", x.held(h), due[h]);
        for (int n : NO_NUMBERS) expect.due("held(" + n + ")", x.held(n), BAD);
    }

    private static void clearing() {
        TamedClassSet x = set();
        x.run(0, 0, 1);
        x.run(2, 0, 1);
        x.clear();
        for (int h = 0; h < 16; h++) {
            expect.due("held(" + h + ")", x.held(h), BAD);
            expect.due("look(" + h + ", 2)", x.look(h, 2), REFUSED);
        }
        expect.due("not sealed: run", x.run(0, 0, 1), REFUSED);
        expect.due("not sealed: typesAt", x.typesAt(0, 0), BAD);
        expect.due("no methods", x.emit(0, 0, 0), BAD);
        expect.due("no classes", x.addField(0, 0, 0), BAD);
        expect.due("class 0 again", x.addClass(-1, 1), 0);
        expect.due("its own type", x.addField(0, FINAL, 2), 0);
        expect.due("no other type", x.addField(0, FINAL, 3), BAD);
        expect.due("field 1", x.addField(0, FINAL, 0), 1);
        expect.due("method 0", x.addMethod(0, STATIC, 0, INT, 2), 0);
        expect.due("instruction 0", x.emit(0, NUL, 0), 0);
        code(x, 0, LOAD, 0, MAKE, 0, RETURN, 0);
        expect.due("check()", x.check(), 0);
        expect.due("handles from 0 again", x.run(0, 0, 6), OBJECT);
        expect.due("held(0)", x.held(0), 2);
        expect.due("look(0, 0)", x.look(0, 0), NULL);
        expect.due("look(0, 1)", x.look(0, 1), 6);
        expect.due("the old field 2 is gone", x.look(0, 2), REFUSED);
        x.clear();
        x.clear();
        expect.due("marks are gone", x.addClass(-1, 0), 0);
        expect.due("", x.addField(0, 0, 1), 0);
        expect.due("an open set is cleared too", x.check(), 0);
    }

    private static void clearingKeepsTheCounts() {
        TamedClassSet x = set();
        x.clear();
        expect.due("runs()", x.runs(), 0);
        expect.due("steps()", x.steps(), BAD);
        x = set();
        x.run(0, 0, 1);
        x.run(2, 0, 1);
        x.clear();
        expect.due("runs()", x.runs(), 2);
        expect.due("steps()", x.steps(), 4);
    }
}
