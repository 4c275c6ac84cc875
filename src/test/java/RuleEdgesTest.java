/** The boundary cases of promise 6 and of the rules, each under the sentence that names it; code that fits has a test of its own. */
public final class RuleEdgesTest extends Sets {
    private static final Expect expect = new Expect();

    public static void main(String[] args) {
        lines();
        immutableClasses();
        powerlessClasses();
        intAndCell();
        staticFields();
        ownFields();
        powerlessFields();
        sameNames();
        codeOfEveryMethod();
        libraries();
        puts();
        sames();
        placesInCode();
        firstRuleDecides();
        firstPlaceDecides();
        sealing();
        sealedAlready();
        expect.end();
    }

    /** Eight classes in one line, the one told with the marks told, the others with none. */
    private static TamedClassSet line(int marked, int marks) {
        TamedClassSet x = new TamedClassSet();
        for (int c = 0; c < 8; c++) x.addClass(c - 1, c == marked ? marks : 0);
        return x;
    }

    private static void lines() {
        expect.sentence("A class's LINE is itself, its parent, the parent of that one, and so on; a class is UNDER those of its line.");
        for (int from = 0; from < 8; from++) {
            for (int to = 0; to < 8; to++) {
                TamedClassSet x = line(0, 0);
                method(x, 0, STATIC, 0, type(from), type(to), LOAD, 0, RETURN, 0);
                expect.due("class " + from + " under " + to, x.check(), from >= to ? 0 : 4000);
                x = new TamedClassSet();
                for (int c = 0; c < 8; c++) x.addClass(c < 2 ? -1 : c - 2, 0);
                method(x, 0, STATIC, 0, type(from), type(to), LOAD, 0, RETURN, 0);
                expect.due("in two lines, class " + from + " under " + to, x.check(), from >= to && (from - to) % 2 == 0 ? 0 : 4000);
            }
        }
    }

    /** Whether a field that is not final is refused in a class: it is when the class is immutable. */
    private static void immutableClasses() {
        expect.sentence("A class is IMMUTABLE when one of its line has the mark 1 or 2");
        for (int marks = 0; marks < 4; marks++) {
            for (int marked = 0; marked < 8; marked++) {
                TamedClassSet x = line(marked, marks);
                x.addField(7, 0, INT);
                expect.due("class 7, the mark " + marks + " at " + marked, x.check(), marks == 0 ? 0 : 2000);
            }
            TamedClassSet x = plain();
            x.addClass(-1, marks);
            x.addClass(0, 0);
            x.addField(0, 0, INT);
            x.addField(2, 0, INT);
            expect.due("the mark " + marks + " outside of the line", x.check(), 0);
        }
    }

    /** Whether a static field may be of a class: it may when the class is powerless. */
    private static void powerlessClasses() {
        expect.sentence("and POWERLESS when one of its line has the mark 2");
        for (int marks = 0; marks < 4; marks++) {
            for (int marked = 0; marked < 8; marked++) {
                for (int cls = 0; cls < 8; cls++) {
                    TamedClassSet x = line(marked, marks);
                    x.addField(0, STATIC + FINAL, type(cls));
                    expect.due("class " + cls + ", the mark " + marks + " at " + marked, x.check(), marks >= 2 && cls >= marked ? 0 : 1000);
                }
            }
        }
        TamedClassSet x = new TamedClassSet();
        x.addClass(-1, 1);
        x.addClass(0, 2);
        x.addClass(1, 0);
        x.addField(0, STATIC + FINAL, type(1));
        x.addField(0, STATIC + FINAL, type(2));
        x.addField(0, STATIC + FINAL, type(0));
        expect.due("the mark 1 in the parent, 2 in the child", x.check(), 1002);
    }

    private static void intAndCell() {
        expect.sentence("INT is immutable and powerless, CELL neither.");
        for (int type = INT; type <= CELL_TYPE; type++) {
            TamedClassSet x = plain();
            x.addField(0, STATIC + FINAL, type);
            expect.due("a static final field of type " + type, x.check(), type == INT ? 0 : 1000);
            for (int marks = 1; marks <= 3; marks++) {
                x = new TamedClassSet();
                x.addClass(-1, marks);
                x.addField(0, FINAL, type);
                expect.due("a final field of type " + type + " in a class of mark " + marks, x.check(), type == INT ? 0 : 2000);
            }
        }
        TamedClassSet x = plain();
        method(x, 0, STATIC, 0, CELL_TYPE, INT, LOAD, 0, LOAD, 0, SAME, 0, RETURN, 0);
        expect.due("SAME of two cells", x.check(), 0);
    }

    private static void staticFields() {
        expect.sentence("1 every static field is final and of a powerless type (place: the field)");
        int[][] broken = {{STATIC, INT}, {STATIC, 1}, {STATIC, 2}, {STATIC, 3}, {STATIC, 4}, {STATIC + FINAL, 1}, {STATIC + FINAL, 2}, {STATIC + FINAL, 3}};
        int[][] good = {{STATIC + FINAL, INT}, {STATIC + FINAL, 4}, {STATIC + FINAL, 5}, {0, INT}, {0, 1}, {0, 2}, {0, 3}, {FINAL, 1}};
        for (int[] bad : broken) {
            for (int place = 0; place < 12; place++) {
                TamedClassSet x = new TamedClassSet();
                for (int marks = 0; marks < 4; marks++) x.addClass(-1, marks);
                for (int f = 0; f < 12; f++) {
                    int[] field = f == place ? bad : good[f % good.length];
                    x.addField(f == place ? place % 4 : 0, field[0], field[1]);
                }
                expect.due("how " + bad[0] + ", type " + bad[1] + " at " + place, x.check(), 1000 + place);
            }
        }
        TamedClassSet x = new TamedClassSet();
        for (int marks = 0; marks < 4; marks++) x.addClass(-1, marks);
        for (int[] field : good) x.addField(0, field[0], field[1]);
        expect.due("good ones alone", x.check(), 0);
    }

    private static void ownFields() {
        expect.sentence("2 every other field that an immutable class has among its own is final and of an immutable type .. (the field)");
        int[][] fields = {{0, INT}, {0, 3}, {FINAL, INT}, {FINAL, 1}, {FINAL, 2}, {FINAL, 3}, {FINAL, 4}, {FINAL, 5}};
        for (int[] field : fields) {
            boolean keeps = field[0] == FINAL && (field[1] == INT || field[1] >= 3);
            for (int place = 0; place < 12; place++) {
                TamedClassSet x = new TamedClassSet();
                for (int marks = 0; marks < 4; marks++) x.addClass(-1, marks);
                x.addClass(-1, 0);
                x.addClass(4, 1);
                for (int f = 0; f < place; f++) x.addField(f % 2 == 0 ? 0 : 1, f % 2 == 0 ? 0 : FINAL, f % 2 == 0 ? 1 : 0);
                x.addField(place % 2 == 0 ? 1 : 4, field[0], field[1]);
                expect.due("how " + field[0] + ", type " + field[1] + " at " + place, x.check(), keeps ? 0 : 2000 + place);
            }
        }
        TamedClassSet x = line(7, 1);
        x.addField(0, 0, INT);
        expect.due("the first class's field is the eighth one's own", x.check(), 2000);
        x = line(1, 1);
        x.addField(0, 0, INT);
        expect.due("and the second one's", x.check(), 2000);
        x = new TamedClassSet();
        x.addClass(-1, 1);
        x.addField(0, STATIC + FINAL, INT);
        expect.due("a static field is no own one", x.check(), 0);
    }

    private static void powerlessFields() {
        expect.sentence("2 .. and if a powerless class has it, of a powerless type (the field)");
        for (int marks = 0; marks < 4; marks++) {
            for (int type = 0; type < 6; type++) {
                TamedClassSet x = new TamedClassSet();
                for (int k = 0; k < 4; k++) x.addClass(-1, k);
                x.addClass(-1, 0);
                x.addClass(4, marks);
                x.addField(0, 0, 1);
                x.addField(4, FINAL, type);
                boolean immutable = type == INT || type >= 3;
                boolean powerless = type == INT || type >= 4;
                boolean good = marks == 0 || marks == 1 && immutable || powerless;
                expect.due("type " + type + ", a child of mark " + marks, x.check(), good ? 0 : 2001);
            }
        }
    }

    /** Method m of class 0 and n of class 1, its child; how, param, result. */
    private static int named(int[] m, int[] n, int nameOfN) {
        TamedClassSet x = plain();
        x.addClass(0, 0);
        method(x, 0, STATIC, 7, -1, INT, PUSH, 1, RETURN, 0);
        method(x, 0, m[0], 0, m[1], m[2], JUMP, 0);
        method(x, 1, n[0], nameOfN, n[1], n[2], JUMP, 0);
        return x.check();
    }

    private static void sameNames() {
        expect.sentence("3 where method n has the name of a method m whose class is another one of the line of n's class, neither is static and parameter and result are the same types (n)");
        for (int how = 0; how < 4; how++) {
            for (int param = -1; param < 4; param++) {
                for (int result = 0; result < 4; result++) {
                    int[] m = {how % 2, 2, 2};
                    int[] n = {how / 2, param, result};
                    boolean good = how == 0 && param == 2 && result == 2;
                    String what = "how " + how + ", param " + param + ", result " + result;
                    expect.due(what, named(m, n, 0), good ? 0 : 3002);
                    expect.due("another name: " + what, named(m, n, 1), 0);
                }
            }
        }
        expect.due("no parameter in both", named(new int[] {0, -1, 0}, new int[] {0, -1, 0}, 0), 0);
        expect.due("no parameter in one", named(new int[] {0, -1, 0}, new int[] {0, 0, 0}, 0), 3002);
        for (int child = 1; child < 8; child++) {
            TamedClassSet x = line(0, 0);
            method(x, 0, 0, 3, INT, INT, JUMP, 0);
            method(x, child, 0, 3, INT, CELL_TYPE, JUMP, 0);
            expect.due("m made before n, " + child + " classes apart", x.check(), 3001);
            x = line(0, 0);
            method(x, child, 0, 3, INT, INT, JUMP, 0);
            method(x, 0, 0, 3, INT, CELL_TYPE, JUMP, 0);
            expect.due("n made before m, " + child + " classes apart", x.check(), 3000);
        }
        TamedClassSet x = plain();
        x.addClass(0, 0);
        x.addClass(0, 0);
        method(x, 1, 0, 0, INT, INT, JUMP, 0);
        method(x, 2, STATIC, 0, -1, CELL_TYPE, JUMP, 0);
        expect.due("two children of one parent", x.check(), 0);
        x = line(0, 0);
        method(x, 2, 0, 0, INT, INT, JUMP, 0);
        method(x, 1, 0, 0, INT, INT, JUMP, 0);
        method(x, 0, 0, 0, -1, INT, JUMP, 0);
        expect.due("the one in between agrees, the farthest does not", x.check(), 3000);
    }

    private static void codeOfEveryMethod() {
        expect.sentence("4 the code of every method fits its types (the method)");
        for (int place = 0; place < 8; place++) {
            TamedClassSet x = plain();
            for (int m = 0; m < 8; m++) method(x, 0, STATIC, m, -1, INT, m == place ? NUL : PUSH, 0, RETURN, 0);
            expect.due("method " + place, x.check(), 4000 + place);
        }
    }

    private static void libraries() {
        expect.sentence("5 no LIBRARY with function 2 or 3");
        for (int function = 0; function < 4; function++) {
            TamedClassSet x = plain();
            method(x, 0, STATIC, 0, INT, INT, LOAD, 0, LIBRARY, function, RETURN, 0);
            expect.due("function " + function, x.check(), function < 2 ? 0 : 5001);
        }
        TamedClassSet x = plain();
        x.addClass(-1, 0);
        x.addClass(-1, 0);
        x.addClass(-1, 0);
        method(x, 0, STATIC, 0, -1, INT, PUSH, 2, STORE, 2, NUL, 2, NUL, 3, MAKE, 3, PUSH, 3, RETURN, 3);
        expect.due("other instructions with 2 and 3", x.check(), 0);
    }

    /** Whether a PUT or PUTS into the field of a how is refused; a static field is final, by rule 1. */
    private static void puts() {
        expect.sentence("6 no PUT or PUTS into a final field");
        for (int how = 0; how <= FINAL; how += FINAL) {
            TamedClassSet x = plain();
            x.addField(0, FINAL - how, INT);
            x.addField(0, how, INT);
            method(x, 0, 0, 0, INT, INT, LOAD, 0, GET, 0, LOAD, 0, LOAD, 1, PUT, 1, RETURN, 0);
            expect.due("PUT, how " + how, x.check(), how == 0 ? 0 : 6004);
        }
        TamedClassSet x = plain();
        x.addField(0, 0, INT);
        x.addField(0, STATIC + FINAL, INT);
        method(x, 0, STATIC, 0, INT, INT, LOAD, 0, LOAD, 0, PUTS, 1, RETURN, 0);
        expect.due("PUTS", x.check(), 6002);
        x = plain();
        x.addField(0, FINAL, INT);
        method(x, 0, STATIC, 0, INT, type(0), LOAD, 0, MAKE, 0, RETURN, 0);
        method(x, 0, 0, 1, -1, INT, LOAD, 0, GET, 0, RETURN, 0);
        expect.due("MAKE and GET of a final field", x.check(), 0);
    }

    private static void sames() {
        expect.sentence("7 no SAME in which one of the two values has an immutable type");
        for (int first = 1; first < 7; first++) {
            for (int second = 1; second < 7; second++) {
                TamedClassSet x = new TamedClassSet();
                for (int marks = 0; marks < 4; marks++) x.addClass(-1, marks);
                x.addClass(1, 0);
                int m = x.addMethod(0, STATIC, 0, CELL_TYPE, INT);
                code(x, m, NUL, 1);
                code(x, m, first == 1 ? LOAD : NUL, first == 1 ? 0 : first - 2);
                code(x, m, second == 1 ? LOAD : NUL, second == 1 ? 0 : second - 2, SAME, 0, RETURN, 0);
                boolean good = first <= 2 && second <= 2;
                expect.due("SAME of type " + first + " and " + second, x.check(), good ? 0 : 7003);
            }
        }
    }

    private static void placesInCode() {
        expect.sentence("(5 to 7: 16 times the method plus the instruction; .. )");
        int[][] breaches = {{5, LIBRARY, 2}, {6, PUTS, 0}, {7, SAME, 0}};
        for (int[] breach : breaches) {
            for (int place = 2; place <= 10; place++) {
                for (int m = 0; m < 8; m++) {
                    TamedClassSet x = new TamedClassSet();
                    x.addClass(-1, 1);
                    x.addField(0, STATIC + FINAL, INT);
                    for (int k = 0; k < 8; k++) {
                        x.addMethod(0, STATIC, k, INT, INT);
                        int at = k == m ? place : 2;
                        int first = breach[1] == SAME && k == m ? NUL : PUSH;
                        for (int i = 0; i < at - 2; i++) code(x, k, JUMP, i + 1);
                        code(x, k, first, 0, first, 0);
                        code(x, k, k == m ? breach[1] : ADD, breach[2]);
                        code(x, k, JUMP, at + 1);
                    }
                    expect.due("rule " + breach[0] + " at " + place + " of method " + m, x.check(), 1000 * breach[0] + 16 * m + place);
                }
            }
        }
    }

    /**
     * Breaks the rules whose bits are in the mask, the later rules at earlier places, and each at two places;
     * so the answer is that of the first broken rule at the first of its places.
     */
    private static TamedClassSet breaking(int mask) {
        TamedClassSet x = new TamedClassSet();
        x.addClass(-1, 1);
        x.addClass(0, 0);
        for (int k = 0; k < 2; k++) x.addField(0, (mask & 2) != 0 ? 0 : FINAL, INT);
        for (int k = 0; k < 2; k++) x.addField(1, (mask & 1) != 0 ? STATIC : STATIC + FINAL, INT);
        boolean compares = (mask & 64) != 0;
        int value = compares ? NUL : PUSH;
        int compare = compares ? SAME : ADD;
        method(x, 0, STATIC, 0, -1, INT, value, 0, value, 0, compare, 0, value, 0, value, 0, compare, 0, RETURN, 0);
        int into = (mask & 32) != 0 ? PUTS : STORE;
        method(x, 0, STATIC, 1, -1, INT, PUSH, 1, PUSH, 1, into, 2, PUSH, 1, into, 2, RETURN, 0);
        int function = (mask & 16) != 0 ? 2 : 0;
        method(x, 0, STATIC, 2, INT, INT, LOAD, 0, LIBRARY, function + 1, LIBRARY, function, RETURN, 0);
        int end = (mask & 8) != 0 ? ADD : RETURN;
        for (int name = 3; name < 5; name++) method(x, 0, 0, name, INT, INT, PUSH, 1, end, 0);
        for (int name = 3; name < 5; name++) method(x, 1, (mask & 4) != 0 ? STATIC : 0, name, INT, INT, PUSH, 1, RETURN, 0);
        return x;
    }

    private static void firstRuleDecides() {
        expect.sentence("RULES, in this order; the first that is broken, at the first place where it is, decides");
        int[] due = {1002, 2000, 3005, 4003, 5033, 6018, 7002, 0};
        for (int mask = 0; mask < 128; mask++) {
            int first = mask == 0 ? 7 : Integer.numberOfTrailingZeros(mask);
            expect.due("rules broken, as bits: " + mask, breaking(mask).check(), due[first]);
        }
    }

    /** The same rule broken in two of four parts, each of which has its breach at its instruction 2. */
    private static void firstPlaceDecides() {
        expect.sentence("the methods in order, in each the instructions in order");
        int[] good = {PUSH, 0, PUSH, 0, ADD, 0, STORE, 1};
        int[][] breaches = {
            {PUSH, 0, LIBRARY, 0, LIBRARY, 3, STORE, 1}, {PUSH, 0, PUSH, 0, PUTS, 0, STORE, 1}, {NUL, 0, NUL, 0, SAME, 0, STORE, 1}};
        for (int rule = 5; rule <= 7; rule++) {
            for (int first = 0; first < 4; first++) {
                for (int second = first; second < 4; second++) {
                    TamedClassSet x = new TamedClassSet();
                    x.addClass(-1, 1);
                    x.addField(0, STATIC + FINAL, INT);
                    for (int part = 0; part < 4; part++) {
                        if (part % 2 == 0) x.addMethod(0, STATIC, part, INT, INT);
                        code(x, part / 2, part == first || part == second ? breaches[rule - 5] : good);
                        if (part % 2 == 1) code(x, part / 2, PUSH, 0, RETURN, 0);
                    }
                    int due = 1000 * rule + 16 * (first / 2) + (first % 2 == 0 ? 2 : 6);
                    expect.due("rule " + rule + " in the parts " + first + " and " + second, x.check(), due);
                }
            }
        }
    }

    private static void sealing() {
        expect.sentence("6: 0 when none is broken, and the set is sealed then; else 1000 times the rule plus the place");
        TamedClassSet x = new TamedClassSet();
        expect.due("an empty set breaks none", x.check(), 0);
        expect.due("it is sealed", x.addClass(-1, 0), TamedClassSet.SEALED);
        x = plain();
        expect.due("a class alone", x.check(), 0);
        expect.due("it is sealed", x.addField(0, 0, 0), TamedClassSet.SEALED);
        x = full();
        expect.due("a full set", x.check(), 0);
        expect.due("it is sealed", x.run(7, 0, -5), 5);
        for (int rule = 1; rule <= 7; rule++) {
            x = breaking(1 << rule - 1);
            int answer = x.check();
            expect.due("rule " + rule, answer / 1000, rule);
            expect.due("not sealed: typesAt", x.typesAt(2, 0), TamedClassSet.BAD);
            expect.due("not sealed: run", x.run(2, 0, 1), TamedClassSet.REFUSED);
            expect.due("the same again", x.check(), answer);
            expect.due("not sealed: addClass", x.addClass(-1, 0), 2);
        }
    }

    private static void sealedAlready() {
        expect.sentence("6: (A sealed set: 0.)");
        TamedClassSet x = plain();
        method(x, 0, STATIC, 0, INT, INT, LOAD, 0, RETURN, 0);
        for (int n = 0; n < 5; n++) expect.due("check() number " + n, x.check(), 0);
        x.addField(0, STATIC, CELL_TYPE);
        expect.due("behind a refused addField", x.check(), 0);
        expect.due("run", x.run(0, 0, 8), 8);
        expect.due("behind a run", x.check(), 0);
        expect.due("typesAt behind it", x.typesAt(0, 0), 0x10000);
    }
}
