import java.util.Random;

/** The 512 calls that an object is used for, under the sentence that names them, and that later calls end. */
public final class LongLifeTest extends Sets {
    private static final int CALLS = 512;
    private static final int BAD = TamedClassSet.BAD;
    private static final long NULL = TamedClassSet.NULL, OBJECT = TamedClassSet.OBJECT, UNHELD = TamedClassSet.UNHELD,
            REFUSED = TamedClassSet.REFUSED;
    private static final String SENTENCE = "An object is used for at most 512 calls after it has been made";
    private static final Expect expect = new Expect();

    public static void main(String[] args) {
        theLastCallIsARun();
        theLastCallIsACheck();
        theLastCallAddsTheFirstClass();
        roundsOfClear();
        clearThenAllRuns();
        allThatFortyRunsMake();
        laterCallsEnd();
        expect.end();
    }

    /** Fourteen calls: a sealed set whose method 0 makes eight objects, the first with the argument in it. */
    private static TamedClassSet makerOfEight() {
        TamedClassSet x = plain();
        x.addField(0, 0, type(0));
        method(x, 0, STATIC, 0, type(0), type(0), LOAD, 0, MAKE, 0, MAKE, 0, MAKE, 0, MAKE, 0, MAKE, 0, MAKE, 0, MAKE, 0, MAKE, 0, RETURN, 0);
        expect.due("check()", x.check(), 0);
        return x;
    }

    /** Forty runs that make eight objects each are spread over the calls; the fortieth is the 512th call. */
    private static void theLastCallIsARun() {
        expect.sentence(SENTENCE + ": the last call is the fortieth run");
        TamedClassSet x = makerOfEight();
        int calls = 14;
        int runs = 0;
        while (calls < CALLS) {
            boolean last = calls == CALLS - 1;
            if (last || calls % 12 == 0 && runs < 39) {
                expect.due("run " + runs, x.run(0, 0, Math.min(runs, 16) - 1), runs < 16 ? OBJECT + runs : UNHELD);
                runs++;
            } else {
                int h = calls % 17;
                int which = calls % 5;
                if (which == 0) expect.due("held(" + h + ")", x.held(h), h < Math.min(runs, 16) ? 2 : BAD);
                if (which == 1) expect.due("look(" + h + ", 0)", x.look(h, 0), h < Math.min(runs, 16) ? UNHELD : REFUSED);
                if (which == 2) expect.due("runs()", x.runs(), runs);
                if (which == 3) expect.due("steps()", x.steps(), runs == 0 ? BAD : 10);
                if (which == 4) expect.due("typesAt(0, 9)", x.typesAt(0, 9), 0x30003);
            }
            calls++;
        }
        expect.due("runs made in 512 calls", runs, 40);
    }

    private static void theLastCallIsACheck() {
        expect.sentence(SENTENCE + ": the last call seals the set");
        TamedClassSet x = full();
        int calls = 8 + 12 + 8 + 8 * 12;
        for (; calls < CALLS - 1; calls++) expect.due("full", x.emit(calls % 8, RETURN, 0), TamedClassSet.FULL);
        expect.due("check()", x.check(), 0);
        x = full();
        x.addClass(0, 4);
        for (calls = 8 + 12 + 8 + 8 * 12 + 1; calls < CALLS - 2; calls++) expect.due("held(0)", x.held(0), BAD);
        expect.due("check()", x.check(), 0);
        expect.due("run(7, 0, -6)", x.run(7, 0, -6), 6);
    }

    private static void theLastCallAddsTheFirstClass() {
        expect.sentence(SENTENCE + ": 511 refused calls, then one that is not");
        TamedClassSet x = new TamedClassSet();
        for (int calls = 0; calls < CALLS - 1; calls++) {
            int which = calls % 6;
            if (which == 0) expect.due("addClass", x.addClass(0, 0), BAD);
            if (which == 1) expect.due("addField", x.addField(0, 0, 0), BAD);
            if (which == 2) expect.due("addMethod", x.addMethod(0, 0, 0, 0, 0), BAD);
            if (which == 3) expect.due("emit", x.emit(0, 0, 0), BAD);
            if (which == 4) expect.due("run", x.run(0, 0, 0), REFUSED);
            if (which == 5) expect.due("look", x.look(0, 0), REFUSED);
        }
        expect.due("the 512th call", x.addClass(-1, 0), 0);
    }

    private static void roundsOfClear() {
        expect.sentence(SENTENCE + ": 64 sets, one behind the other");
        TamedClassSet x = new TamedClassSet();
        for (int round = 0; round < CALLS / 8; round++) {
            expect.due("addClass", x.addClass(-1, 0), 0);
            expect.due("addMethod", x.addMethod(0, STATIC, 0, INT, INT), 0);
            expect.due("emit", x.emit(0, LOAD, 0), 0);
            expect.due("emit", x.emit(0, RETURN, 0), 1);
            expect.due("check()", x.check(), 0);
            expect.due("run", x.run(0, 0, round), round < 40 ? round : REFUSED);
            expect.due("runs()", x.runs(), Math.min(round + 1, 40));
            x.clear();
        }
        x = new TamedClassSet();
        for (int calls = 0; calls < CALLS - 1; calls++) x.clear();
        expect.due("behind 511 times clear", x.addClass(-1, 0), 0);
    }

    /** Forty runs of eight objects, with a clear before the first of them or between two. */
    private static void clearThenAllRuns() {
        expect.sentence(SENTENCE + ": forty runs that make eight objects, and clear");
        for (int cleared = 0; cleared < 40; cleared += 3) {
            TamedClassSet x = new TamedClassSet();
            for (int n = 0; n < 40; n++) {
                if (n == cleared) x.clear();
                if (n == 0 || n == cleared) {
                    x.addClass(-1, 0);
                    x.addField(0, 0, type(0));
                    method(x, 0, STATIC, 0, -1, type(0), NUL, 0, MAKE, 0, MAKE, 0, MAKE, 0, MAKE, 0, MAKE, 0, MAKE, 0, MAKE, 0, MAKE, 0, RETURN, 0);
                    x.check();
                }
                int before = n < cleared ? n : n - cleared;
                expect.due("run " + n + ", cleared before " + cleared, x.run(0, 0, 0), before < 16 ? OBJECT + before : UNHELD);
            }
            expect.due("runs()", x.runs(), 40);
            expect.due("look(0, 0)", x.look(0, 0), UNHELD);
        }
    }

    /** Every run makes eight nodes and puts them into the holder, so that all of them stay reachable. */
    private static void allThatFortyRunsMake() {
        expect.sentence(SENTENCE + ": what the first run made stays as it is");
        TamedClassSet x = plain();
        x.addClass(-1, 0);
        x.addField(0, 0, type(1));
        x.addField(1, 0, type(1));
        method(x, 0, STATIC, 0, type(1), type(1), LOAD, 0, MAKE, 1, MAKE, 1, MAKE, 1, MAKE, 1, MAKE, 1, MAKE, 1, MAKE, 1, MAKE, 1, RETURN, 0);
        method(x, 0, 0, 1, -1, type(1), LOAD, 0, LOAD, 0, GET, 0, CALL, 0, PUT, 0, LOAD, 0, GET, 0, RETURN, 0);
        method(x, 0, STATIC, 2, type(1), type(0), LOAD, 0, MAKE, 0, RETURN, 0);
        method(x, 1, 0, 3, -1, type(1), LOAD, 0, GET, 1, RETURN, 0);
        expect.due("check()", x.check(), 0);
        expect.due("eight nodes", x.run(0, 0, -1), OBJECT);
        expect.due("the holder", x.run(2, 0, 0), OBJECT + 1);
        for (int n = 0; n < 29; n++) {
            expect.due("eight nodes more", x.run(1, 1, 0), n < 14 ? OBJECT + 2 + n : UNHELD);
            expect.due("what the first run made", x.held(0), type(1));
        }
        expect.due("the node behind it is in no handle", x.look(0, 1), UNHELD);
        for (int n = 0; n < 8; n++) expect.due("a node behind", x.run(3, n < 7 ? 2 : 3, 0), UNHELD);
        expect.due("the holder's newest", x.look(1, 0), UNHELD);
        expect.due("the fortieth run", x.run(0, 0, 15), UNHELD);
        expect.due("one more", x.run(0, 0, -1), REFUSED);
        expect.due("runs()", x.runs(), 40);
        x = plain();
        x.addField(0, 0, type(0));
        method(x, 0, STATIC, 0, type(0), type(0), LOAD, 0, MAKE, 0, STORE, 1, NUL, 0, MAKE, 0, MAKE, 0, MAKE, 0, MAKE, 0, LOAD, 1, RETURN, 0);
        expect.due("check()", x.check(), 0);
        for (int h = 0; h < 16; h++) expect.due("on top of the one before", x.run(0, 0, h - 1), OBJECT + h);
        for (int n = 0; n < 24; n++) expect.due("a run whose result is in no handle", x.run(0, 0, -1), UNHELD);
        for (int h = 0; h < 16; h++) expect.due("what handle " + h + " holds", x.look(h, 0), h == 0 ? NULL : OBJECT + h - 1);
    }

    /** What they answer is free, but by the language's rules no call may throw or fail to end. */
    private static void laterCallsEnd() {
        expect.sentence("what later calls answer is free");
        Random random = new Random(5);
        int ended = 0;
        for (int life = 0; life < 40; life++) {
            TamedClassSet x = life % 2 == 0 ? full() : new TamedClassSet();
            for (int calls = 0; calls < 5000; calls++) {
                anyCall(x, random);
                ended++;
            }
        }
        TamedClassSet x = makerOfEight();
        for (int calls = 0; calls < 100000; calls++) {
            x.run(0, 0, -1);
            ended++;
        }
        expect.due("calls that ended", ended, 300000);
    }

    private static int any(Random random) {
        int[] odd = {Integer.MIN_VALUE, -2, -1, 0, 1, 2, 3, 7, 8, 9, 11, 12, 15, 16, 19, 20, Integer.MAX_VALUE};
        return odd[random.nextInt(odd.length)];
    }

    private static void anyCall(TamedClassSet x, Random random) {
        int a = any(random);
        int b = any(random);
        int c = any(random);
        switch (random.nextInt(14)) {
            case 0 -> x.addClass(a, b);
            case 1 -> x.addField(a, b, c);
            case 2 -> x.addMethod(a, b & 1, c, any(random), any(random));
            case 3, 4, 5 -> x.emit(a, random.nextInt(20), c);
            case 6 -> x.check();
            case 7 -> x.typesAt(a, b);
            case 8 -> x.run(a, b, c);
            case 9 -> x.look(a, b);
            case 10 -> x.held(a);
            case 11 -> x.runs();
            case 12 -> x.steps();
            default -> { if (random.nextInt(50) == 0) x.clear(); }
        }
    }
}
