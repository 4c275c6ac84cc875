/** The boundary cases of promises 1 to 5, each under the sentence of the document that names it. */
public final class BuildEdgesTest extends Sets {
    private static final int BAD = TamedClassSet.BAD, FULL = TamedClassSet.FULL, SEALED = TamedClassSet.SEALED;
    private static final int LEAST = Integer.MIN_VALUE, MOST = Integer.MAX_VALUE;
    private static final Expect expect = new Expect();

    public static void main(String[] args) {
        aNewObject();
        typeNumbers();
        classNumbers();
        parentsMadeBefore();
        fieldNumbers();
        methodNumbers();
        names();
        instructionNumbers();
        badParents();
        badMarks();
        fullOfClasses();
        badFieldClasses();
        badFieldHows();
        badFieldTypes();
        fullOfFields();
        methodsBeginEmpty();
        badMethodClasses();
        badMethodHows();
        badMethodNames();
        badParams();
        badResults();
        nameTwice();
        fullOfMethods();
        badMethods();
        badOps();
        anyOperand();
        fullOfInstructions();
        sealedSet();
        testedInThisOrder();
        expect.end();
    }

    private static void aNewObject() {
        expect.sentence("1: No classes, fields, methods or handles; not sealed.");
        TamedClassSet x = new TamedClassSet();
        expect.due("no class: addField(0, 0, 0)", x.addField(0, 0, 0), BAD);
        expect.due("no class: addMethod(0, 0, 0, -1, 0)", x.addMethod(0, 0, 0, -1, 0), BAD);
        expect.due("no class: addClass(0, 0)", x.addClass(0, 0), BAD);
        expect.due("no method: emit(0, 0, 0)", x.emit(0, 0, 0), BAD);
        for (int h = 0; h < 16; h++) expect.due("no handle: held(" + h + ")", x.held(h), BAD);
        expect.due("not sealed: run(0, 0, 0)", x.run(0, 0, 0), TamedClassSet.REFUSED);
        expect.due("not sealed: addClass(-1, 0)", x.addClass(-1, 0), 0);
        expect.due("no field before: addField(0, 0, 0)", x.addField(0, 0, 0), 0);
        expect.due("no method before: addMethod(0, 1, 0, -1, 0)", x.addMethod(0, 1, 0, -1, 0), 0);
        expect.due("no instruction before: emit(0, 0, 0)", x.emit(0, 0, 0), 0);
        TamedClassSet other = new TamedClassSet();
        expect.due("nothing of another object's", other.addField(0, 0, 0), BAD);
        expect.due("another object's class 0", other.addClass(-1, 0), 0);
    }

    private static void typeNumbers() {
        expect.sentence("TYPES are numbers: 0 INT, 1 CELL .. 2 + c class c.");
        TamedClassSet x = new TamedClassSet();
        for (int c = 0; c < 8; c++) {
            x.addClass(-1, 0);
            expect.due("the last class's type", x.addField(c, 0, 2 + c), c);
            expect.due("the next type", x.addField(c, 0, 3 + c), BAD);
            expect.due("the last class's type as result", x.addMethod(c, 0, 0, 2 + c, 2 + c), c);
            expect.due("the next type as result", x.addMethod(c, 0, 1, 0, 3 + c), BAD);
            expect.due("the next type as parameter", x.addMethod(c, 0, 1, 3 + c, 0), BAD);
        }
        expect.due("INT", x.addField(0, 0, 0), 8);
        expect.due("CELL", x.addField(0, 0, 1), 9);
    }

    private static void classNumbers() {
        expect.sentence("CLASSES have numbers 0 .. 7");
        TamedClassSet x = new TamedClassSet();
        for (int c = 0; c < 8; c++) expect.due("class " + c, x.addClass(-1, 0), c);
        for (int c = 0; c < 8; c++) expect.due("a field of class " + c, x.addField(c, 0, 0), c);
        expect.due("a field of class 8", x.addField(8, 0, 0), BAD);
    }

    private static void parentsMadeBefore() {
        expect.sentence("each has a PARENT, a class made before it, or none, and marks");
        TamedClassSet x = new TamedClassSet();
        for (int c = 0; c < 8; c++) {
            expect.due("class " + c + " under itself", x.addClass(c, 0), BAD);
            expect.due("class " + c + " under the next one", x.addClass(c + 1, 0), BAD);
            expect.due("class " + c + " under the one before, or none", x.addClass(c - 1, 0), c);
        }
        x = new TamedClassSet();
        x.addClass(-1, 0);
        for (int c = 1; c < 8; c++) expect.due("class " + c + " under the first one", x.addClass(0, 0), c);
    }

    private static void fieldNumbers() {
        expect.sentence("FIELDS have numbers 0 .. 11.");
        TamedClassSet x = plain();
        for (int f = 0; f < 12; f++) expect.due("field " + f, x.addField(0, STATIC + FINAL, 0), f);
        for (int f = 0; f < 4; f++) {
            method(x, 0, STATIC, f, -1, 0, GETS, 3 * f, GETS, 3 * f + 1, GETS, 3 * f + 2, RETURN, 0);
        }
        expect.due("all twelve are used", x.check(), 0);
    }

    private static void methodNumbers() {
        expect.sentence("METHODS have numbers 0 .. 7");
        TamedClassSet x = plain();
        for (int m = 0; m < 8; m++) expect.due("method " + m, x.addMethod(0, STATIC, m, -1, 0), m);
        for (int m = 0; m < 8; m++) code(x, m, m == 0 ? PUSH : CALL, m == 0 ? 44 : m - 1, RETURN, 0);
        expect.due("check()", x.check(), 0);
        for (int m = 0; m < 6; m++) expect.due("run of method " + m, x.run(m, 0, 0), 44);
        expect.due("method 7", x.typesAt(7, 1), 1);
        expect.due("method 8", x.typesAt(8, 0), BAD);
    }

    private static void names() {
        expect.sentence("a NAME (0 .. 7; two methods of one class have different names)");
        TamedClassSet x = plain();
        for (int n = 0; n < 8; n++) expect.due("name " + n, x.addMethod(0, 0, n, -1, 0), n);
        x = plain();
        x.addClass(-1, 0);
        x.addClass(0, 0);
        for (int c = 0; c < 3; c++) {
            expect.due("the name 7 in class " + c, x.addMethod(c, 0, 7, -1, 0), c);
            expect.due("the name 7 again in class " + c, x.addMethod(c, 0, 7, -1, 0), BAD);
        }
    }

    private static void instructionNumbers() {
        expect.sentence("A method's code has at most 12 INSTRUCTIONS, numbered from 0.");
        TamedClassSet x = plain();
        for (int m = 0; m < 8; m++) x.addMethod(0, STATIC, m, 0, 0);
        for (int i = 0; i < 12; i++) {
            for (int m = 7; m >= 0; m--) expect.due("instruction " + i + " of method " + m, x.emit(m, i < 11 ? JUMP : RETURN, i + 1), i);
        }
        for (int m = 0; m < 8; m++) expect.due("a thirteenth of method " + m, x.emit(m, 0, 0), FULL);
        x = full();
        expect.due("twelve in each of eight", x.check(), 0);
        for (int m = 0; m < 8; m++) {
            expect.due("before the first of method " + m, x.typesAt(m, 0), 0x10000);
            expect.due("before the last of method " + m, x.typesAt(m, 11), 0x10001);
            expect.due("all of them are done", x.run(m, 0, -3 - m), 3 + m);
            expect.due("twelve steps", x.steps(), 12);
        }
    }

    private static void badParents() {
        expect.sentence("2: BAD when parent is not -1 or the number of a class");
        TamedClassSet x = new TamedClassSet();
        for (int c = 0; c < 3; c++) {
            int[] parents = {-2, LEAST, c, c + 1, 8, MOST};
            for (int parent : parents) expect.due("addClass(" + parent + ", 0) with " + c, x.addClass(parent, 0), BAD);
            expect.due("addClass(-1, 0)", x.addClass(-1, 0), c);
        }
        for (int parent = 0; parent < 3; parent++) expect.due("addClass(" + parent + ", 0)", x.addClass(parent, 0), 3 + parent);
    }

    private static void badMarks() {
        expect.sentence("2: or marks are not 0 .. 3");
        TamedClassSet x = new TamedClassSet();
        int[] bad = {-1, 4, 5, LEAST, MOST};
        for (int marks : bad) expect.due("addClass(-1, " + marks + ")", x.addClass(-1, marks), BAD);
        for (int marks = 0; marks <= 3; marks++) expect.due("addClass(-1, " + marks + ")", x.addClass(-1, marks), marks);
    }

    private static void fullOfClasses() {
        expect.sentence("2: FULL when there are 8");
        TamedClassSet x = new TamedClassSet();
        for (int c = 0; c < 7; c++) x.addClass(-1, 0);
        expect.due("the eighth", x.addClass(-1, 0), 7);
        expect.due("a ninth", x.addClass(-1, 0), FULL);
        expect.due("a ninth under the eighth", x.addClass(7, 3), FULL);
    }

    private static void badFieldClasses() {
        expect.sentence("3: BAD when there is no class cls");
        TamedClassSet x = new TamedClassSet();
        expect.due("with no class at all", x.addField(0, 0, 0), BAD);
        x.addClass(-1, 0);
        x.addClass(-1, 0);
        int[] bad = {-1, 2, 7, 8, LEAST, MOST};
        for (int cls : bad) expect.due("addField(" + cls + ", 0, 0)", x.addField(cls, 0, 0), BAD);
        expect.due("addField(0, 0, 0)", x.addField(0, 0, 0), 0);
        expect.due("addField(1, 0, 0)", x.addField(1, 0, 0), 1);
    }

    private static void badFieldHows() {
        expect.sentence("3: how is not 0 .. 3");
        TamedClassSet x = plain();
        int[] bad = {-1, 4, 5, LEAST, MOST};
        for (int how : bad) expect.due("addField(0, " + how + ", 0)", x.addField(0, how, 0), BAD);
        for (int how = 0; how <= 3; how++) expect.due("addField(0, " + how + ", 0)", x.addField(0, how, 0), how);
    }

    private static void badFieldTypes() {
        expect.sentence("3: or type is not 0, 1 or 2 + the number of a class");
        TamedClassSet x = plain();
        int[] bad = {-1, -2, 3, 9, 10, LEAST, MOST};
        for (int type : bad) expect.due("addField(0, 0, " + type + ")", x.addField(0, 0, type), BAD);
        for (int type = 0; type <= 2; type++) expect.due("addField(0, 0, " + type + ")", x.addField(0, 0, type), type);
        x = new TamedClassSet();
        for (int c = 0; c < 8; c++) x.addClass(-1, 0);
        expect.due("the type of class 7", x.addField(0, 0, 9), 0);
        expect.due("the type of no class", x.addField(0, 0, 10), BAD);
    }

    private static void fullOfFields() {
        expect.sentence("3: FULL when there are 12");
        TamedClassSet x = plain();
        x.addClass(-1, 0);
        for (int f = 0; f < 11; f++) x.addField(0, 0, 0);
        expect.due("the twelfth", x.addField(1, 0, 0), 11);
        expect.due("a thirteenth", x.addField(0, 0, 0), FULL);
        expect.due("a thirteenth of another class", x.addField(1, 3, 3), FULL);
    }

    private static void methodsBeginEmpty() {
        expect.sentence("4: Adds a method without instructions to class cls");
        TamedClassSet x = full();
        x.clear();
        x.addClass(-1, 0);
        x.addMethod(0, STATIC, 0, 0, 0);
        expect.due("it does not fit", x.check(), 4000);
        expect.due("its first instruction", x.emit(0, LOAD, 0), 0);
    }

    private static void badMethodClasses() {
        expect.sentence("4: BAD when there is no class cls");
        TamedClassSet x = new TamedClassSet();
        expect.due("with no class at all", x.addMethod(0, 0, 0, 0, 0), BAD);
        x.addClass(-1, 0);
        x.addClass(-1, 0);
        int[] bad = {-1, 2, 7, 8, LEAST, MOST};
        for (int cls : bad) expect.due("addMethod(" + cls + ", 0, 0, 0, 0)", x.addMethod(cls, 0, 0, 0, 0), BAD);
        expect.due("addMethod(1, 0, 0, 0, 0)", x.addMethod(1, 0, 0, 0, 0), 0);
    }

    private static void badMethodHows() {
        expect.sentence("4: how is not 0 or 1");
        TamedClassSet x = plain();
        int[] bad = {-1, 2, 3, LEAST, MOST};
        for (int how : bad) expect.due("addMethod(0, " + how + ", 0, 0, 0)", x.addMethod(0, how, 0, 0, 0), BAD);
        for (int how = 0; how <= 1; how++) expect.due("addMethod(0, " + how + ", ..)", x.addMethod(0, how, how, 0, 0), how);
    }

    private static void badMethodNames() {
        expect.sentence("4: name is not 0 .. 7");
        TamedClassSet x = plain();
        int[] bad = {-1, 8, 9, LEAST, MOST};
        for (int name : bad) expect.due("addMethod(0, 0, " + name + ", 0, 0)", x.addMethod(0, 0, name, 0, 0), BAD);
        expect.due("name 7", x.addMethod(0, 0, 7, 0, 0), 0);
        expect.due("name 0", x.addMethod(0, 0, 0, 0, 0), 1);
    }

    private static void badParams() {
        expect.sentence("4: param is not -1 (none) or a type as in addField");
        TamedClassSet x = plain();
        int[] bad = {-2, 3, 9, 10, LEAST, MOST};
        for (int param : bad) expect.due("addMethod(0, 0, 0, " + param + ", 0)", x.addMethod(0, 0, 0, param, 0), BAD);
        for (int param = -1; param <= 2; param++) expect.due("param " + param, x.addMethod(0, 0, 1 + param, param, 0), 1 + param);
    }

    private static void badResults() {
        expect.sentence("4: result is not such a type");
        TamedClassSet x = plain();
        int[] bad = {-1, -2, 3, 9, 10, LEAST, MOST};
        for (int result : bad) expect.due("addMethod(0, 0, 0, 0, " + result + ")", x.addMethod(0, 0, 0, 0, result), BAD);
        for (int result = 0; result <= 2; result++) expect.due("result " + result, x.addMethod(0, 0, result, 0, result), result);
    }

    private static void nameTwice() {
        expect.sentence("4: or the class has a method of that name");
        TamedClassSet x = plain();
        x.addClass(0, 0);
        expect.due("the first", x.addMethod(0, 0, 5, 0, 0), 0);
        expect.due("the same again", x.addMethod(0, 0, 5, 0, 0), BAD);
        expect.due("static now", x.addMethod(0, 1, 5, 0, 0), BAD);
        expect.due("with other types", x.addMethod(0, 0, 5, -1, 2), BAD);
        expect.due("in a child", x.addMethod(1, 0, 5, 0, 0), 1);
        expect.due("in the child again", x.addMethod(1, 0, 5, 0, 0), BAD);
        expect.due("another name", x.addMethod(0, 0, 4, 0, 0), 2);
    }

    private static void fullOfMethods() {
        expect.sentence("4: FULL when there are 8");
        TamedClassSet x = plain();
        x.addClass(-1, 0);
        for (int m = 0; m < 7; m++) x.addMethod(0, 0, m, 0, 0);
        expect.due("the eighth", x.addMethod(1, 0, 0, 0, 0), 7);
        expect.due("a ninth", x.addMethod(0, 0, 7, 0, 0), FULL);
        expect.due("a ninth of another class", x.addMethod(1, 1, 7, -1, 2), FULL);
    }

    private static void badMethods() {
        expect.sentence("5: BAD when there is no such method");
        TamedClassSet x = plain();
        expect.due("with no method at all", x.emit(0, 0, 0), BAD);
        x.addMethod(0, 0, 0, 0, 0);
        x.addMethod(0, 0, 1, 0, 0);
        int[] bad = {-1, 2, 7, 8, LEAST, MOST};
        for (int method : bad) expect.due("emit(" + method + ", 0, 0)", x.emit(method, 0, 0), BAD);
        expect.due("emit(1, 0, 0)", x.emit(1, 0, 0), 0);
    }

    private static void badOps() {
        expect.sentence("5: or op is not 0 .. 19");
        TamedClassSet x = plain();
        x.addMethod(0, 0, 0, 0, 0);
        x.addMethod(0, 0, 1, 0, 0);
        int[] bad = {-1, 20, 21, LEAST, MOST};
        for (int op : bad) expect.due("emit(0, " + op + ", 0)", x.emit(0, op, 0), BAD);
        for (int op = 0; op < 20; op++) expect.due("emit(" + op / 10 + ", " + op + ", 0)", x.emit(op / 10, op, 0), op % 10);
    }

    /** emit looks at the method and the op alone; what the number says is looked at by check. */
    private static void anyOperand() {
        expect.sentence("5: Adds an instruction to a method and answers its number.");
        int[] numbers = {LEAST, -1, 0, 12, MOST};
        for (int op = 0; op < 20; op++) {
            TamedClassSet x = plain();
            x.addMethod(0, 0, 0, 0, 0);
            for (int k = 0; k < numbers.length; k++) expect.due("emit(0, " + op + ", " + numbers[k] + ")", x.emit(0, op, numbers[k]), k);
        }
    }

    private static void fullOfInstructions() {
        expect.sentence("5: FULL when the method has 12");
        TamedClassSet x = plain();
        x.addMethod(0, 0, 0, 0, 0);
        x.addMethod(0, 0, 1, 0, 0);
        for (int i = 0; i < 11; i++) x.emit(1, PUSH, i);
        expect.due("the twelfth", x.emit(1, PUSH, 0), 11);
        expect.due("a thirteenth", x.emit(1, PUSH, 0), FULL);
        expect.due("a thirteenth of another op", x.emit(1, RETURN, 99), FULL);
        expect.due("the other method has room", x.emit(0, PUSH, 0), 0);
    }

    private static void sealedSet() {
        expect.sentence("SEALED = -3: The set is sealed.");
        TamedClassSet x = plain();
        method(x, 0, STATIC, 0, -1, 0, PUSH, 1, RETURN, 0);
        x.check();
        expect.due("addClass(-1, 0)", x.addClass(-1, 0), SEALED);
        expect.due("addField(0, 0, 0)", x.addField(0, 0, 0), SEALED);
        expect.due("addMethod(0, 0, 1, 0, 0)", x.addMethod(0, 0, 1, 0, 0), SEALED);
        expect.due("emit(0, 0, 0)", x.emit(0, 0, 0), SEALED);
        x.clear();
        expect.due("addClass(-1, 0) of the cleared set", x.addClass(-1, 0), 0);
    }

    private static void testedInThisOrder() {
        expect.sentence("(Tested in this order, as in the calls below.)");
        TamedClassSet x = full();
        expect.due("BAD before FULL: parent", x.addClass(8, 0), BAD);
        expect.due("BAD before FULL: marks", x.addClass(-1, 4), BAD);
        expect.due("FULL: class", x.addClass(-1, 0), FULL);
        expect.due("BAD before FULL: a field's class", x.addField(8, 0, 0), BAD);
        expect.due("BAD before FULL: a field's how", x.addField(0, 4, 0), BAD);
        expect.due("BAD before FULL: a field's type", x.addField(0, 0, 10), BAD);
        expect.due("FULL: field", x.addField(0, 0, 0), FULL);
        expect.due("BAD before FULL: a method's class", x.addMethod(8, 0, 7, 0, 0), BAD);
        expect.due("BAD before FULL: a method's how", x.addMethod(0, 2, 7, 0, 0), BAD);
        expect.due("BAD before FULL: a method's name", x.addMethod(0, 0, 8, 0, 0), BAD);
        expect.due("BAD before FULL: a method's parameter", x.addMethod(0, 0, 7, 10, 0), BAD);
        expect.due("BAD before FULL: a method's result", x.addMethod(0, 0, 7, 0, 10), BAD);
        expect.due("BAD before FULL: a name that is there", x.addMethod(0, 0, 0, 0, 0), BAD);
        expect.due("FULL: method", x.addMethod(0, 0, 7, 0, 0), FULL);
        expect.due("BAD before FULL: an instruction's method", x.emit(8, 0, 0), BAD);
        expect.due("BAD before FULL: op", x.emit(0, 20, 0), BAD);
        expect.due("FULL: instruction", x.emit(0, 0, 0), FULL);
        expect.due("check()", x.check(), 0);
        expect.due("SEALED before BAD: class", x.addClass(8, 4), SEALED);
        expect.due("SEALED before BAD: field", x.addField(8, 4, 10), SEALED);
        expect.due("SEALED before BAD: method", x.addMethod(8, 2, 8, 10, 10), SEALED);
        expect.due("SEALED before BAD: instruction", x.emit(8, 20, 0), SEALED);
        expect.due("SEALED before FULL: class", x.addClass(-1, 0), SEALED);
        expect.due("SEALED before FULL: field", x.addField(0, 0, 0), SEALED);
        expect.due("SEALED before FULL: method", x.addMethod(0, 0, 7, 0, 0), SEALED);
        expect.due("SEALED before FULL: instruction", x.emit(0, 0, 0), SEALED);
    }
}
