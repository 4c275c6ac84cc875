/** Promises 2 to 5: addClass, addField, addMethod, emit. */
public final class BuildTest {
    private static final int BAD = TamedClassSet.BAD, FULL = TamedClassSet.FULL, SEALED = TamedClassSet.SEALED;
    private static final int LEAST = Integer.MIN_VALUE, MOST = Integer.MAX_VALUE;
    private static final Expect expect = new Expect();

    public static void main(String[] args) {
        classes();
        fields();
        methods();
        instructions();
        sealed();
        expect.end();
    }

    private static void classes() {
        TamedClassSet x = new TamedClassSet();
        int[] badParents = {0, 1, 7, 8, -2, LEAST, MOST};
        for (int parent : badParents) expect.due("addClass(" + parent + ", 0)", x.addClass(parent, 0), BAD);
        int[] badMarks = {-1, 4, LEAST, MOST};
        for (int marks : badMarks) expect.due("addClass(-1, " + marks + ")", x.addClass(-1, marks), BAD);
        for (int c = 0; c < 8; c++) {
            expect.due("its own number as parent", x.addClass(c, 0), BAD);
            expect.due("class " + c, x.addClass(c - 1, c % 4), c);
        }
        expect.due("a ninth class", x.addClass(-1, 0), FULL);
        expect.due("a ninth class with a parent", x.addClass(7, 3), FULL);
        expect.due("BAD before FULL: parent", x.addClass(8, 0), BAD);
        expect.due("BAD before FULL: marks", x.addClass(-1, 4), BAD);
    }

    private static void fields() {
        TamedClassSet x = Sets.plain();
        int[] badClasses = {-1, 1, 8, LEAST, MOST};
        for (int cls : badClasses) expect.due("addField(" + cls + ", 0, 0)", x.addField(cls, 0, 0), BAD);
        int[] badHows = {-1, 4, LEAST, MOST};
        for (int how : badHows) expect.due("addField(0, " + how + ", 0)", x.addField(0, how, 0), BAD);
        int[] badTypes = {-1, 3, 9, LEAST, MOST};
        for (int type : badTypes) expect.due("addField(0, 0, " + type + ")", x.addField(0, 0, type), BAD);
        for (int f = 0; f < 12; f++) expect.due("field " + f, x.addField(0, f % 4, f % 3), f);
        expect.due("a thirteenth field", x.addField(0, 0, 0), FULL);
        expect.due("BAD before FULL: class", x.addField(1, 0, 0), BAD);
        expect.due("BAD before FULL: how", x.addField(0, 4, 0), BAD);
        expect.due("BAD before FULL: type", x.addField(0, 0, 3), BAD);
    }

    private static void methods() {
        TamedClassSet x = Sets.plain();
        x.addClass(0, 0);
        int[] badClasses = {-1, 2, 8, LEAST, MOST};
        for (int cls : badClasses) expect.due("addMethod(" + cls + ", ..)", x.addMethod(cls, 0, 0, 0, 0), BAD);
        int[] badHows = {-1, 2, 3, LEAST, MOST};
        for (int how : badHows) expect.due("addMethod(0, " + how + ", ..)", x.addMethod(0, how, 0, 0, 0), BAD);
        int[] badNames = {-1, 8, LEAST, MOST};
        for (int name : badNames) expect.due("addMethod(0, 0, " + name + ", ..)", x.addMethod(0, 0, name, 0, 0), BAD);
        int[] badParams = {-2, 4, LEAST, MOST};
        for (int param : badParams) expect.due("param " + param, x.addMethod(0, 0, 0, param, 0), BAD);
        int[] badResults = {-1, 4, LEAST, MOST};
        for (int result : badResults) expect.due("result " + result, x.addMethod(0, 0, 0, 0, result), BAD);
        for (int m = 0; m < 7; m++) {
            expect.due("method " + m, x.addMethod(0, m % 2, m, m % 4 == 3 ? -1 : m % 4, m % 4), m);
            expect.due("the same name again", x.addMethod(0, 1 - m % 2, m, 0, 0), BAD);
        }
        expect.due("the same name in another class", x.addMethod(1, 0, 0, -1, 3), 7);
        expect.due("a ninth method", x.addMethod(0, 0, 7, 0, 0), FULL);
        expect.due("BAD before FULL: class", x.addMethod(2, 0, 7, 0, 0), BAD);
        expect.due("BAD before FULL: how", x.addMethod(0, 2, 7, 0, 0), BAD);
        expect.due("BAD before FULL: name", x.addMethod(0, 0, 8, 0, 0), BAD);
        expect.due("BAD before FULL: the name is there", x.addMethod(1, 0, 0, 0, 0), BAD);
        expect.due("BAD before FULL: param", x.addMethod(0, 0, 7, 4, 0), BAD);
        expect.due("BAD before FULL: result", x.addMethod(0, 0, 7, 0, 4), BAD);
    }

    private static void instructions() {
        TamedClassSet x = Sets.plain();
        expect.due("no method yet", x.emit(0, 0, 0), BAD);
        for (int m = 0; m < 2; m++) x.addMethod(0, 1, m, -1, 0);
        int[] badMethods = {-1, 2, 8, LEAST, MOST};
        for (int method : badMethods) expect.due("emit(" + method + ", 0, 0)", x.emit(method, 0, 0), BAD);
        int[] badOps = {-1, 20, LEAST, MOST};
        for (int op : badOps) expect.due("emit(0, " + op + ", 0)", x.emit(0, op, 0), BAD);
        int[] whatever = {LEAST, -1, 0, 99, MOST};
        for (int i = 0; i < 12; i++) {
            expect.due("instruction " + i, x.emit(0, i, whatever[i % 5]), i);
            expect.due("instruction " + i + " of the other", x.emit(1, 19 - i, whatever[i % 5]), i);
        }
        for (int m = 0; m < 2; m++) {
            expect.due("a thirteenth instruction", x.emit(m, 0, 0), FULL);
            expect.due("BAD before FULL: op", x.emit(m, 20, 0), BAD);
        }
        expect.due("BAD before FULL: method", x.emit(2, 0, 0), BAD);
    }

    private static void sealed() {
        TamedClassSet x = Sets.plain();
        Sets.method(x, 0, Sets.STATIC, 0, -1, 0, Sets.PUSH, 1, Sets.RETURN, 0);
        expect.due("check()", x.check(), 0);
        expect.due("addClass", x.addClass(-1, 0), SEALED);
        expect.due("addField", x.addField(0, 0, 0), SEALED);
        expect.due("addMethod", x.addMethod(0, 0, 1, 0, 0), SEALED);
        expect.due("emit", x.emit(0, 0, 0), SEALED);
        expect.due("SEALED before BAD: addClass", x.addClass(9, 9), SEALED);
        expect.due("SEALED before BAD: addField", x.addField(9, 9, 99), SEALED);
        expect.due("SEALED before BAD: addMethod", x.addMethod(9, 9, 9, 99, 99), SEALED);
        expect.due("SEALED before BAD: emit", x.emit(9, 99, 0), SEALED);
        expect.due("nothing was added: typesAt(0, 2)", x.typesAt(0, 2), BAD);
        expect.due("nothing was added: run(1, 0, 0)", x.run(1, 0, 0), TamedClassSet.REFUSED);
    }
}
