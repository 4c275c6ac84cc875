/** The boundary cases of promises 7 and 9 to 13, each under the sentence of the document that names it. */
public final class HandleEdgesTest extends Sets {
    private static final long NULL = TamedClassSet.NULL, OBJECT = TamedClassSet.OBJECT, FAULT = TamedClassSet.FAULT,
            UNHELD = TamedClassSet.UNHELD, REFUSED = TamedClassSet.REFUSED;
    private static final int BAD = TamedClassSet.BAD;
    private static final int LEAST = Integer.MIN_VALUE, MOST = Integer.MAX_VALUE;
    private static final Expect expect = new Expect();

    public static void main(String[] args) {
        sixteenHandles();
        clearedClasses();
        clearedFields();
        clearedMethods();
        clearedHandles();
        clearedSeal();
        clearedCounts();
        runOfOpenSet();
        fortyRuns();
        clearGivesNoneBack();
        noSuchMethod();
        receivers();
        arguments();
        intArguments();
        notLookedAt();
        faultAnswers();
        intResults();
        nullResults();
        firstHandle();
        nextFreeHandle();
        allHoldOthers();
        lookAnswers();
        lookNow();
        lookAtCells();
        lookAtNothing();
        lookAtNoSuchField();
        typesHeld();
        nothingHeld();
        runsMade();
        stepsDone();
        stepsOfFaults();
        noStepsYet();
        expect.end();
    }

    private static void sealed(TamedClassSet x) {
        expect.due("check()", x.check(), 0);
    }

    /** 0 <- 1, 2 beside; methods 0 to 2 make an object of the class of their number, 3 a cell. */
    private static TamedClassSet makers() {
        TamedClassSet x = new TamedClassSet();
        x.addClass(-1, 0);
        x.addClass(0, 0);
        x.addClass(-1, 0);
        for (int c = 0; c < 3; c++) method(x, 0, STATIC, 7 - c, -1, type(c), MAKE, c, RETURN, 0);
        method(x, 0, STATIC, 1, INT, CELL_TYPE, LOAD, 0, CELL, 0, RETURN, 0);
        return x;
    }

    private static void sixteenHandles() {
        expect.sentence("HANDLES 0 .. 15 hold the objects and cells that runs gave as results.");
        TamedClassSet x = makers();
        sealed(x);
        for (int h = 0; h < 16; h++) expect.due("run " + h, x.run(h % 4, 0, h), OBJECT + h);
        int[] types = {type(0), type(1), type(2), CELL_TYPE};
        for (int h = 0; h < 16; h++) expect.due("held(" + h + ")", x.held(h), types[h % 4]);
        for (int h = 3; h < 16; h += 4) expect.due("the cell in " + h, x.look(h, 0), h);
        expect.due("a seventeenth", x.run(0, 0, 0), UNHELD);
        expect.due("held(16)", x.held(16), BAD);
    }

    private static void clearedClasses() {
        expect.sentence("7: Takes everything away: no classes");
        TamedClassSet x = new TamedClassSet();
        for (int c = 0; c < 8; c++) x.addClass(c - 1, 3);
        x.clear();
        expect.due("no parent", x.addClass(0, 0), BAD);
        expect.due("no class for a field", x.addField(0, 0, 0), BAD);
        expect.due("no class for a method", x.addMethod(0, 0, 0, 0, 0), BAD);
        for (int c = 0; c < 8; c++) expect.due("class " + c + " again", x.addClass(-1, 0), c);
        expect.due("no room for a ninth", x.addClass(-1, 0), TamedClassSet.FULL);
        x.addField(7, 0, CELL_TYPE);
        expect.due("no marks are left", x.check(), 0);
        x.clear();
        x.addClass(-1, 0);
        x.addClass(-1, 0);
        method(x, 0, STATIC, 0, type(1), type(0), LOAD, 0, RETURN, 0);
        expect.due("no parents are left", x.check(), 4000);
        int[] ops = {MAKE, NUL};
        for (int op : ops) {
            x = plain();
            x.addClass(-1, 0);
            x.clear();
            x.addClass(-1, 0);
            method(x, 0, STATIC, 0, -1, INT, op, 1, PUSH, 1, RETURN, 0);
            expect.due("op " + op + " of a class of before", x.check(), 4000);
        }
    }

    private static void clearedFields() {
        expect.sentence("7: Takes everything away: no .. fields");
        TamedClassSet x = plain();
        for (int f = 0; f < 12; f++) x.addField(0, STATIC, CELL_TYPE);
        x.clear();
        x.addClass(-1, 1);
        expect.due("none of them breaks a rule", x.check(), 0);
        x.clear();
        x.addClass(-1, 0);
        for (int f = 0; f < 12; f++) expect.due("field " + f + " again", x.addField(0, 0, 0), f);
        expect.due("no room for a thirteenth", x.addField(0, 0, 0), TamedClassSet.FULL);
        x.clear();
        x.addClass(-1, 0);
        method(x, 0, STATIC, 0, -1, type(0), MAKE, 0, RETURN, 0);
        sealed(x);
        expect.due("an object without fields", x.run(0, 0, 0), OBJECT);
        expect.due("it has no field 0", x.look(0, 0), REFUSED);
        int[][] codes = {{NUL, 0, GET, 0, RETURN, 0}, {PUSH, 1, NUL, 0, PUSH, 1, PUT, 0, RETURN, 0}, {GETS, 1, RETURN, 0}, {PUSH, 1, PUSH, 1, PUTS, 1, RETURN, 0}};
        for (int[] code : codes) {
            x = plain();
            x.addField(0, 0, INT);
            x.addField(0, STATIC + FINAL, INT);
            x.clear();
            x.addClass(-1, 0);
            method(x, 0, STATIC, 0, -1, INT, code);
            expect.due("code with a field of before", x.check(), 4000);
        }
    }

    private static void clearedMethods() {
        expect.sentence("7: Takes everything away: no .. methods");
        TamedClassSet x = plain();
        for (int m = 0; m < 8; m++) method(x, 0, 0, m, -1, INT, PUSH, 1, PUSH, 1);
        x.clear();
        expect.due("no method", x.emit(0, 0, 0), BAD);
        x.addClass(-1, 0);
        x.addClass(-1, 0);
        for (int m = 0; m < 8; m++) {
            expect.due("method " + m + " of the same name again", x.addMethod(0, STATIC, m, -1, INT), m);
            expect.due("its first instruction", x.emit(m, PUSH, m), 0);
            expect.due("its second instruction", x.emit(m, RETURN, 0), 1);
        }
        expect.due("no room for a ninth", x.addMethod(1, 0, 0, 0, 0), TamedClassSet.FULL);
        sealed(x);
        expect.due("the new code runs", x.run(7, 0, 0), 7);
        x.clear();
        sealed(x);
        expect.due("no method to run", x.run(7, 0, 0), REFUSED);
        x = plain();
        for (int m = 0; m < 2; m++) method(x, 0, STATIC, m, -1, INT, PUSH, 1, RETURN, 0);
        x.clear();
        x.addClass(-1, 0);
        method(x, 0, STATIC, 0, -1, INT, CALL, 1, RETURN, 0);
        expect.due("CALL of a method of before", x.check(), 4000);
        x.clear();
        x.addClass(-1, 0);
        x.addClass(0, 0);
        method(x, 1, 0, 1, INT, INT, JUMP, 0);
        expect.due("the name of a method of before", x.check(), 0);
    }

    private static void clearedHandles() {
        expect.sentence("7: Takes everything away: no .. handles");
        TamedClassSet x = makers();
        sealed(x);
        for (int h = 0; h < 16; h++) x.run(h % 4, 0, 0);
        x.clear();
        for (int h = 0; h < 16; h++) {
            expect.due("held(" + h + ")", x.held(h), BAD);
            expect.due("look(" + h + ", 0)", x.look(h, 0), REFUSED);
        }
        x.addClass(-1, 0);
        method(x, 0, STATIC, 0, INT, CELL_TYPE, LOAD, 0, CELL, 0, RETURN, 0);
        method(x, 0, STATIC, 1, CELL_TYPE, INT, LOAD, 0, READ, 0, RETURN, 0);
        sealed(x);
        expect.due("a handle of before as argument", x.run(1, 0, 3), REFUSED);
        for (int h = 0; h < 16; h++) expect.due("handle " + h + " again", x.run(0, 0, 70 + h), OBJECT + h);
        expect.due("what it holds", x.look(3, 0), 73);
        expect.due("a seventeenth", x.run(0, 0, 0), UNHELD);
    }

    private static void clearedSeal() {
        expect.sentence("7: not sealed");
        TamedClassSet x = makers();
        sealed(x);
        x.clear();
        expect.due("run", x.run(0, 0, 0), REFUSED);
        expect.due("typesAt", x.typesAt(0, 0), BAD);
        expect.due("addClass", x.addClass(-1, 0), 0);
        x.addField(0, STATIC, INT);
        expect.due("check() looks at the rules again", x.check(), 1000);
        x.clear();
        x.clear();
        expect.due("cleared twice", x.addClass(-1, 0), 0);
    }

    private static void clearedCounts() {
        expect.sentence("7: runs() and steps() stay as they are");
        TamedClassSet x = makers();
        x.clear();
        expect.due("runs() of none", x.runs(), 0);
        expect.due("steps() of none", x.steps(), BAD);
        x = makers();
        sealed(x);
        x.run(0, 0, 0);
        x.run(3, 0, 0);
        for (int n = 0; n < 3; n++) {
            x.clear();
            expect.due("runs()", x.runs(), 2);
            expect.due("steps()", x.steps(), 3);
        }
        x.addClass(-1, 0);
        method(x, 0, STATIC, 0, -1, INT, JUMP, 0);
        sealed(x);
        expect.due("a third run", x.run(0, 0, 0), FAULT + 2);
        expect.due("runs()", x.runs(), 3);
        x.clear();
        expect.due("steps() of a fault", x.steps(), 64);
    }

    private static void runOfOpenSet() {
        expect.sentence("9: REFUSED when the set is not sealed");
        TamedClassSet x = new TamedClassSet();
        expect.due("a new object", x.run(0, 0, 0), REFUSED);
        x = makers();
        expect.due("before check", x.run(0, 0, 0), REFUSED);
        x.addField(0, STATIC, INT);
        expect.due("a broken rule", x.check(), 1000);
        expect.due("behind it", x.run(0, 0, 0), REFUSED);
        x = makers();
        sealed(x);
        expect.due("sealed", x.run(0, 0, 0), OBJECT);
        x.clear();
        expect.due("cleared", x.run(0, 0, 0), REFUSED);
    }

    private static void fortyRuns() {
        expect.sentence("9: REFUSED when .. 40 runs were made");
        TamedClassSet x = makers();
        method(x, 0, STATIC, 2, -1, INT, JUMP, 0);
        sealed(x);
        for (int n = 0; n < 39; n++) {
            expect.due("run " + n, x.run(n % 2 == 0 ? 4 : 0, 0, 0), n % 2 == 0 ? FAULT + 2 : n < 32 ? OBJECT + n / 2 : UNHELD);
            expect.due("a refused one", x.run(5, 0, 0), REFUSED);
        }
        expect.due("runs()", x.runs(), 39);
        expect.due("the fortieth", x.run(4, 0, 0), FAULT + 2);
        for (int n = 0; n < 3; n++) expect.due("one more", x.run(0, 0, 0), REFUSED);
        expect.due("runs()", x.runs(), 40);
    }

    private static void clearGivesNoneBack() {
        expect.sentence("9: (clear gives none of them back)");
        TamedClassSet x = new TamedClassSet();
        for (int n = 0; n < 42; n++) {
            x.addClass(-1, 0);
            method(x, 0, STATIC, 0, INT, INT, LOAD, 0, RETURN, 0);
            sealed(x);
            expect.due("run " + n, x.run(0, 0, n), n < 40 ? n : REFUSED);
            expect.due("runs()", x.runs(), n < 40 ? n + 1 : 40);
            x.clear();
        }
    }

    private static void noSuchMethod() {
        expect.sentence("9: REFUSED when .. there is no such method");
        TamedClassSet x = makers();
        sealed(x);
        int[] none = {LEAST, -1, 4, 7, 8, MOST};
        for (int m : none) expect.due("run(" + m + ", 0, 0)", x.run(m, 0, 0), REFUSED);
        expect.due("the last one", x.run(3, 0, 0), OBJECT);
        x = new TamedClassSet();
        sealed(x);
        expect.due("in an empty set", x.run(0, 0, 0), REFUSED);
        x = full();
        sealed(x);
        expect.due("the eighth", x.run(7, 0, 3), 3);
        expect.due("a ninth", x.run(8, 0, 3), REFUSED);
    }

    /** Handles 0 to 3 hold an object of class 0, of 1, of 2, and a cell; method 4 has a receiver of class 0, 5 of class 1. */
    private static TamedClassSet withHandles(int param) {
        TamedClassSet x = makers();
        method(x, 0, 0, 2, param, INT, PUSH, 50, RETURN, 0);
        method(x, 1, 0, 3, param, INT, PUSH, 51, RETURN, 0);
        method(x, 0, STATIC, 4, param, INT, PUSH, 52, RETURN, 0);
        sealed(x);
        for (int m = 0; m < 4; m++) x.run(m, 0, 0);
        return x;
    }

    private static void receivers() {
        expect.sentence("9: it has a receiver and the handle receiver does not hold an object whose class is under the method's class");
        TamedClassSet x = withHandles(-1);
        int[] none = {LEAST, -2, -1, 2, 3, 4, 15, 16, 17, MOST};
        for (int r : none) {
            expect.due("receiver " + r + " of class 0's", x.run(4, r, 0), REFUSED);
            expect.due("receiver " + r + " of class 1's", x.run(5, r, 0), REFUSED);
        }
        expect.due("its own class", x.run(4, 0, 0), 50);
        expect.due("a class under it", x.run(4, 1, 0), 50);
        expect.due("its own class", x.run(5, 1, 0), 51);
        expect.due("its parent", x.run(5, 0, 0), REFUSED);
    }

    private static void arguments() {
        expect.sentence("9: it has a parameter that is not INT and the argument is neither -1 (null) nor a handle that holds something whose type fits it");
        for (int param = CELL_TYPE; param <= type(2); param++) {
            TamedClassSet x = withHandles(param);
            int[] none = {LEAST, -2, 4, 5, 15, 16, 17, MOST};
            for (int a : none) {
                expect.due("argument " + a + " for type " + param, x.run(6, 0, a), REFUSED);
                expect.due("with a receiver", x.run(4, 0, a), REFUSED);
            }
            int[] types = {type(0), type(1), type(2), CELL_TYPE};
            for (int h = 0; h < 4; h++) {
                boolean fits = types[h] == param || types[h] == type(1) && param == type(0);
                expect.due("type " + types[h] + " for type " + param, x.run(6, 0, h), fits ? 52 : REFUSED);
                expect.due("with a receiver", x.run(4, 1, h), fits ? 50 : REFUSED);
            }
            expect.due("null for type " + param, x.run(6, 0, -1), 52);
            expect.due("null and no receiver", x.run(4, -1, -1), REFUSED);
        }
    }

    private static void intArguments() {
        expect.sentence("9: (An INT parameter is the argument itself; ..)");
        TamedClassSet x = makers();
        method(x, 0, STATIC, 2, INT, INT, LOAD, 0, RETURN, 0);
        method(x, 0, 0, 3, INT, INT, LOAD, 1, RETURN, 0);
        sealed(x);
        expect.due("an object in handle 0", x.run(0, 0, 0), OBJECT);
        int[] ints = {LEAST, -2, -1, 0, 1, 16, MOST};
        for (int a : ints) {
            expect.due("run(4, 0, " + a + ")", x.run(4, 0, a), a);
            expect.due("run(5, 0, " + a + ")", x.run(5, 0, a), a);
        }
    }

    private static void notLookedAt() {
        expect.sentence("9: (.. what is not wanted is not looked at.)");
        TamedClassSet x = makers();
        method(x, 0, 0, 2, -1, INT, PUSH, 60, RETURN, 0);
        method(x, 0, STATIC, 3, CELL_TYPE, INT, PUSH, 61, RETURN, 0);
        sealed(x);
        int[] any = {LEAST, -2, -1, 0, 3, 15, 16, MOST};
        for (int h = 0; h < any.length; h++) expect.due("neither is wanted: " + any[h], x.run(0, any[h], any[any.length - 1 - h]), OBJECT + h);
        for (int n : any) {
            expect.due("no argument is wanted: " + n, x.run(4, 0, n), 60);
            expect.due("no receiver is wanted: " + n, x.run(5, n, -1), 61);
        }
    }

    private static void faultAnswers() {
        expect.sentence("9: Otherwise FAULT plus n when the run faults");
        TamedClassSet x = makers();
        method(x, 0, STATIC, 2, CELL_TYPE, CELL_TYPE, LOAD, 0, READ, 0, CELL, 0, RETURN, 0);
        method(x, 0, STATIC, 3, -1, CELL_TYPE, JUMP, 0);
        method(x, 0, STATIC, 4, -1, CELL_TYPE, CALL, 6, RETURN, 0);
        method(x, 0, STATIC, 0, -1, CELL_TYPE, PUSH, 1, CELL, 0, STORE, 0, LOAD, 0, STORE, 1, PUSH, 1, CELL, 0, STORE, 1, JUMP, 5);
        sealed(x);
        for (int n = 1; n <= 4; n++) {
            expect.due("fault " + n, x.run(3 + n, 0, -1), FAULT + n);
            expect.due("nothing is held", x.held(0), BAD);
            expect.due("it is one of the runs", x.runs(), n);
        }
    }

    private static void intResults() {
        expect.sentence("9: else the result: an int");
        TamedClassSet x = makers();
        method(x, 0, STATIC, 2, INT, INT, LOAD, 0, RETURN, 0);
        sealed(x);
        int[] ints = {LEAST, LEAST + 1, -1, 0, 1, MOST - 1, MOST};
        for (int n : ints) expect.due("the int " + n, x.run(4, 0, n), n);
        expect.due("an int takes no handle", x.held(0), BAD);
    }

    private static void nullResults() {
        expect.sentence("9: the result: .. NULL");
        TamedClassSet x = makers();
        method(x, 0, STATIC, 2, CELL_TYPE, CELL_TYPE, LOAD, 0, RETURN, 0);
        method(x, 0, STATIC, 3, -1, type(0), NUL, 1, RETURN, 0);
        sealed(x);
        expect.due("a null cell", x.run(4, 0, -1), NULL);
        expect.due("a null object", x.run(5, 0, 0), NULL);
        expect.due("null takes no handle", x.held(0), BAD);
        for (int h = 0; h < 16; h++) x.run(0, 0, 0);
        expect.due("null where all hold others", x.run(5, 0, 0), NULL);
    }

    private static void firstHandle() {
        expect.sentence("9: or OBJECT plus the first handle that holds it");
        TamedClassSet x = makers();
        method(x, 0, STATIC, 2, type(0), type(0), LOAD, 0, RETURN, 0);
        method(x, 0, STATIC, 3, CELL_TYPE, CELL_TYPE, LOAD, 0, RETURN, 0);
        sealed(x);
        for (int h = 0; h < 2; h++) {
            expect.due("made", x.run(h == 0 ? 1 : 3, 0, 0), OBJECT + h);
            expect.due("given again", x.run(4 + h, 0, h), OBJECT + h);
            expect.due("in no second handle", x.held(h + 1), BAD);
        }
        for (int h = 2; h < 16; h++) x.run(h % 2 == 0 ? 1 : 3, 0, 0);
        for (int h = 15; h >= 0; h--) expect.due("what handle " + h + " holds", x.run(h % 2 == 0 ? 4 : 5, 0, h), OBJECT + h);
        expect.due("its own class", x.held(0), type(1));
    }

    private static void nextFreeHandle() {
        expect.sentence("9: where an object or cell that is in none is put into the next free handle first");
        TamedClassSet x = makers();
        method(x, 0, STATIC, 2, INT, INT, LOAD, 0, RETURN, 0);
        method(x, 0, STATIC, 3, -1, INT, JUMP, 0);
        method(x, 0, STATIC, 4, type(0), type(0), LOAD, 0, RETURN, 0);
        sealed(x);
        for (int h = 0; h < 8; h++) {
            expect.due("not held yet", x.held(h), BAD);
            expect.due("an object", x.run(h % 2, 0, 0), OBJECT + h);
            expect.due("held now", x.held(h), type(h % 2));
            x.run(4, 0, 5);
            x.run(5, 0, 0);
            x.run(6, 0, h);
            x.run(7, 0, 0);
        }
    }

    private static void allHoldOthers() {
        expect.sentence("9: UNHELD if all 16 hold others");
        TamedClassSet x = makers();
        method(x, 0, STATIC, 2, type(0), type(0), LOAD, 0, RETURN, 0);
        sealed(x);
        for (int h = 0; h < 15; h++) x.run(0, 0, 0);
        expect.due("the sixteenth", x.run(0, 0, 0), OBJECT + 15);
        expect.due("a seventeenth object", x.run(0, 0, 0), UNHELD);
        expect.due("a seventeenth cell", x.run(3, 0, 0), UNHELD);
        for (int h = 0; h < 16; h++) {
            expect.due("held(" + h + ") as it was", x.held(h), type(0));
            expect.due("one that is held", x.run(4, 0, h), OBJECT + h);
        }
    }

    /** Class 0 has an int, an object of its own class and a cell; methods: 0 makes one, 1 changes it, 2 gives its cell. */
    private static TamedClassSet looking() {
        TamedClassSet x = plain();
        x.addClass(0, 0);
        x.addClass(-1, 0);
        x.addField(0, STATIC + FINAL, INT);
        x.addField(0, 0, INT);
        x.addField(0, 0, type(0));
        x.addField(1, 0, CELL_TYPE);
        x.addField(2, 0, INT);
        for (int f = 5; f < 12; f++) x.addField(2, STATIC + FINAL, INT);
        method(x, 0, STATIC, 0, type(0), type(0), PUSH, 6, LOAD, 0, PUSH, 7, CELL, 0, MAKE, 1, RETURN, 0);
        method(x, 0, 0, 1, INT, INT, LOAD, 0, LOAD, 1, PUT, 1, LOAD, 0, LOAD, 0, PUT, 2, PUSH, 0, RETURN, 0);
        method(x, 1, 0, 2, -1, CELL_TYPE, LOAD, 0, GET, 3, RETURN, 0);
        method(x, 1, 0, 3, INT, INT, LOAD, 0, GET, 3, LOAD, 1, WRITE, 0, PUSH, 0, RETURN, 0);
        method(x, 0, STATIC, 4, INT, type(0), LOAD, 0, NUL, 0, MAKE, 0, RETURN, 0);
        sealed(x);
        return x;
    }

    private static void lookAnswers() {
        expect.sentence("10: (an int, NULL, OBJECT plus the first handle that holds the value, UNHELD)");
        TamedClassSet x = looking();
        expect.due("an object", x.run(0, 0, -1), OBJECT);
        expect.due("one with the first in it", x.run(0, 0, 0), OBJECT + 1);
        expect.due("an int", x.look(0, 1), 6);
        expect.due("null", x.look(0, 2), NULL);
        expect.due("an object", x.look(1, 2), OBJECT);
        expect.due("a cell in no handle", x.look(0, 3), UNHELD);
        expect.due("looking puts nothing into a handle", x.held(2), BAD);
        expect.due("the second one's cell", x.run(2, 1, 0), OBJECT + 2);
        expect.due("now it is in one", x.look(1, 3), OBJECT + 2);
        expect.due("the first one's is still in none", x.look(0, 3), UNHELD);
        int[] ints = {LEAST, -1, MOST};
        for (int n = 0; n < 3; n++) {
            expect.due("with an int", x.run(4, 0, ints[n]), OBJECT + 3 + n);
            expect.due("the int " + ints[n], x.look(3 + n, 1), ints[n]);
        }
    }

    private static void lookNow() {
        expect.sentence("10: What the object in a handle has in a field now");
        TamedClassSet x = looking();
        expect.due("an object", x.run(0, 0, -1), OBJECT);
        expect.due("a change", x.run(1, 0, -9), 0);
        expect.due("the int now", x.look(0, 1), -9);
        expect.due("the object now", x.look(0, 2), OBJECT);
        expect.due("another change", x.run(1, 0, MOST), 0);
        expect.due("the int now", x.look(0, 1), MOST);
    }

    private static void lookAtCells() {
        expect.sentence("10: or, for a cell and whatever field, the int that it holds");
        TamedClassSet x = looking();
        x.run(0, 0, -1);
        expect.due("its cell", x.run(2, 0, 0), OBJECT + 1);
        int[] any = {LEAST, -1, 0, 1, 2, 3, 4, 11, 12, 16, MOST};
        for (int f : any) expect.due("look(1, " + f + ")", x.look(1, f), 7);
        int[] ints = {LEAST, -1, 0, MOST};
        for (int n : ints) {
            expect.due("a change", x.run(3, 0, n), 0);
            expect.due("what it holds now", x.look(1, -1), n);
        }
    }

    private static void lookAtNothing() {
        expect.sentence("10: REFUSED when the handle holds nothing");
        TamedClassSet x = looking();
        for (int h = 0; h < 16; h++) expect.due("before any run: look(" + h + ", 1)", x.look(h, 1), REFUSED);
        x.run(0, 0, -1);
        int[] none = {LEAST, -1, 1, 2, 15, 16, 17, MOST};
        for (int h : none) expect.due("look(" + h + ", 1)", x.look(h, 1), REFUSED);
        expect.due("look(0, 1)", x.look(0, 1), 6);
    }

    private static void lookAtNoSuchField() {
        expect.sentence("10: or it holds an object that has no such field among its own (static ones are none of these)");
        TamedClassSet x = looking();
        x.run(0, 0, -1);
        x.run(4, 0, 3);
        int[] none = {LEAST, -1, 0, 4, 5, 11, 12, 13, MOST};
        for (int f : none) {
            expect.due("look(0, " + f + ")", x.look(0, f), REFUSED);
            expect.due("look(1, " + f + ")", x.look(1, f), REFUSED);
        }
        expect.due("the parent's field in the child", x.look(0, 1), 6);
        expect.due("the child's own field", x.look(0, 3), UNHELD);
        expect.due("the child's field in the parent", x.look(1, 3), REFUSED);
        x = plain();
        x.addField(0, 0, INT);
        method(x, 0, STATIC, 0, INT, type(0), LOAD, 0, MAKE, 0, RETURN, 0);
        sealed(x);
        expect.due("an object with one field", x.run(0, 0, 8), OBJECT);
        expect.due("the field", x.look(0, 0), 8);
        for (int f = 1; f <= 12; f++) expect.due("no field " + f, x.look(0, f), REFUSED);
    }

    private static void typesHeld() {
        expect.sentence("11: The type of what a handle holds: 1 or 2 + the object's class");
        TamedClassSet x = new TamedClassSet();
        for (int c = 0; c < 8; c++) x.addClass(c - 1, 0);
        for (int k = 0; k < 4; k++) method(x, 0, STATIC, k, INT, type(0), LOAD, 0, ZERO, 4, MAKE, 2 * k + 1, RETURN, 0, MAKE, 2 * k, RETURN, 0);
        method(x, 0, STATIC, 4, INT, CELL_TYPE, LOAD, 0, CELL, 0, RETURN, 0);
        sealed(x);
        for (int c = 0; c < 8; c++) {
            x.run(c / 2, 0, c % 2);
            expect.due("an object of class " + c, x.held(c), 2 + c);
        }
        x.run(4, 0, 0);
        expect.due("a cell", x.held(8), 1);
    }

    private static void nothingHeld() {
        expect.sentence("11: BAD when it holds nothing");
        TamedClassSet x = makers();
        for (int h = -1; h <= 16; h++) expect.due("open: held(" + h + ")", x.held(h), BAD);
        sealed(x);
        x.run(0, 0, 0);
        int[] none = {LEAST, -1, 1, 15, 16, MOST};
        for (int h : none) expect.due("held(" + h + ")", x.held(h), BAD);
        for (int h = 1; h < 16; h++) x.run(0, 0, 0);
        expect.due("held(15)", x.held(15), type(0));
        expect.due("held(16)", x.held(16), BAD);
        expect.due("held(-1)", x.held(-1), BAD);
    }

    private static void runsMade() {
        expect.sentence("12: How many runs were made in all, faulted ones included; refused ones are none.");
        TamedClassSet x = makers();
        method(x, 0, STATIC, 2, CELL_TYPE, INT, LOAD, 0, READ, 0, RETURN, 0);
        expect.due("of a new object", x.runs(), 0);
        x.run(0, 0, 0);
        expect.due("behind a refused one of an open set", x.runs(), 0);
        sealed(x);
        expect.due("behind check", x.runs(), 0);
        for (int n = 0; n < 20; n++) {
            x.run(0, 0, 0);
            expect.due("behind a run", x.runs(), 2 * n + 1);
            x.run(4, 0, -1);
            expect.due("behind a faulted run", x.runs(), 2 * n + 2);
            x.run(4, 0, 99);
            expect.due("behind a refused run", x.runs(), 2 * n + 2);
        }
        x.clear();
        expect.due("behind clear", x.runs(), 40);
    }

    private static void stepsDone() {
        expect.sentence("13: How many instructions the latest run did");
        TamedClassSet x = plain();
        method(x, 0, STATIC, 0, INT, INT, LOAD, 0, ZERO, 4, PUSH, 1, RETURN, 0, PUSH, 1, LIBRARY, 0, RETURN, 0);
        method(x, 0, STATIC, 1, INT, INT, LOAD, 0, CALL, 0, RETURN, 0);
        sealed(x);
        int[][] due = {{0, 1, 4}, {0, 0, 5}, {1, 1, 7}, {1, 0, 8}, {0, 1, 4}};
        for (int[] row : due) {
            x.run(row[0], 0, row[1]);
            expect.due("steps() of run(" + row[0] + ", 0, " + row[1] + ")", x.steps(), row[2]);
        }
        x.run(2, 0, 0);
        expect.due("behind a refused run", x.steps(), 4);
        x.check();
        x.clear();
        expect.due("behind clear", x.steps(), 4);
    }

    private static void stepsOfFaults() {
        expect.sentence("13: the one at which it faulted included (64 after fault 2)");
        TamedClassSet x = plain();
        method(x, 0, STATIC, 0, CELL_TYPE, INT, LOAD, 0, READ, 0, RETURN, 0);
        method(x, 0, STATIC, 1, -1, INT, JUMP, 0);
        method(x, 0, STATIC, 2, -1, INT, CALL, 2, RETURN, 0);
        method(x, 0, STATIC, 3, -1, INT, PUSH, 1, CELL, 0, STORE, 0, JUMP, 4, PUSH, 1, CELL, 0, STORE, 0, JUMP, 4);
        sealed(x);
        int[] due = {2, 64, 6, 4 + 4 * 7 + 2};
        for (int n = 1; n <= 4; n++) {
            expect.due("fault " + n, x.run(n - 1, 0, -1), FAULT + n);
            expect.due("steps() behind it", x.steps(), due[n - 1]);
        }
    }

    private static void noStepsYet() {
        expect.sentence("13: BAD when there was none");
        TamedClassSet x = new TamedClassSet();
        expect.due("a new object", x.steps(), BAD);
        x = makers();
        expect.due("an open set", x.steps(), BAD);
        x.run(0, 0, 0);
        expect.due("behind a refused run", x.steps(), BAD);
        sealed(x);
        expect.due("a sealed set", x.steps(), BAD);
        x.run(9, 0, 0);
        expect.due("behind a refused run of a sealed set", x.steps(), BAD);
        x.clear();
        expect.due("behind clear", x.steps(), BAD);
    }
}
