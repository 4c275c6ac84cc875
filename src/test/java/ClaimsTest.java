import java.util.ArrayList;
import java.util.HashMap;
import java.util.List;
import java.util.Map;

/**
 * What the document claims of a sealed set in its first sentences, before it tells the rules. Sets are drawn at
 * random and run; nothing here knows the rules, so that a rule that was read wrongly can show as a claim that does not hold.
 */
public final class ClaimsTest implements Drawing.Builder {
    private static final int SETS = 30000;
    private static final int RUNS = 40;
    private static final String IMMUTABLE = "classes that claim to be immutable are so all through";
    private static final String TYPES = "code fits its types on every way";
    private static final String TAME = "only tame library functions are called";
    private static final String HANDED = "no class can keep changeable state where everybody reaches it: what a method does then hangs on what is handed to it alone";
    private static final String CAN_RUN = "A set that was accepted is sealed and can be run";
    private static final long NULL = TamedClassSet.NULL, OBJECT = TamedClassSet.OBJECT, FAULT = TamedClassSet.FAULT,
            UNHELD = TamedClassSet.UNHELD, REFUSED = TamedClassSet.REFUSED;

    private record Handed(int method, int receiver, int argument) { }

    private record Outcome(long answer, int type, int steps) { }

    private static final Map<String, Integer> asked = new HashMap<>();
    private static int wrong = 0;

    private final TamedClassSet set = new TamedClassSet();
    private final Drawing drawing;
    private final List<String> calls = new ArrayList<>();
    /** What runs came to that were handed nothing that can be changed, in the order in which they were made. */
    private final Map<Handed, Outcome> outcomes = new HashMap<>();
    private final List<Handed> made = new ArrayList<>();
    /** What the fields of immutable objects were found to be: handle * 12 + field. */
    private final Map<Integer, Long> found = new HashMap<>();
    private boolean isWild;

    private ClaimsTest(long seed) {
        drawing = new Drawing(seed, this, 40, (int) seed % 2 * 90);
    }

    public static void main(String[] args) {
        Deadline.set();
        for (int seed = 0; seed < SETS && wrong < 5; seed++) new ClaimsTest(seed).live();
        for (String claim : List.of(IMMUTABLE, TYPES, TAME, HANDED, CAN_RUN)) {
            int times = asked.getOrDefault(claim, 0);
            if (args.length > 0) System.out.println(times + " times: " + claim);
            if (times >= 200) continue;
            wrong++;
            System.out.println("asked " + times + " times only: " + claim);
        }
        System.out.println(wrong == 0 ? "the claims hold of " + SETS + " drawn sets" : wrong + " claims do not hold");
        if (wrong != 0) System.exit(1);
    }

    private void claim(String words, String what, boolean holds) {
        asked.merge(words, 1, Integer::sum);
        if (holds) return;
        wrong++;
        for (String call : calls) System.out.println("  " + call);
        System.out.println("\"" + words + "\": does not hold: " + what);
    }

    private int told(String call, int answer) {
        calls.add(call + " -> " + answer);
        return answer;
    }

    @Override
    public int addClass(int parent, int marks) {
        return told("addClass(" + parent + ", " + marks + ")", set.addClass(parent, marks));
    }

    @Override
    public int addField(int cls, int how, int type) {
        return told("addField(" + cls + ", " + how + ", " + type + ")", set.addField(cls, how, type));
    }

    @Override
    public int addMethod(int cls, int how, int name, int param, int result) {
        return told("addMethod(" + cls + ", " + how + ", " + name + ", " + param + ", " + result + ")",
                set.addMethod(cls, how, name, param, result));
    }

    @Override
    public int emit(int method, int op, int a) {
        int answer = told("emit(" + method + ", " + op + ", " + a + ")", set.emit(method, op, a));
        if (answer >= 0 && op == Sets.LIBRARY && (a == 2 || a == 3)) isWild = true;
        return answer;
    }

    @Override
    public int check() {
        return told("check()", set.check());
    }

    private void live() {
        int answer = drawing.build();
        if (isWild) claim(TAME, "a set with the time or a drawn number is not accepted", answer != 0);
        if (answer != 0) return;
        claim(CAN_RUN, "it takes nothing more", set.addClass(-1, 0) == TamedClassSet.SEALED);
        for (int n = 0; n < RUNS; n++) {
            boolean again = !made.isEmpty() && drawing.chance(40);
            Handed handed = again ? made.get(drawing.below(made.size())) : drawn();
            if (handed == null) continue;
            runOnce(handed);
            lookAtAll();
        }
    }

    /** A method, and handles that hold what it wants; null if there is nothing to hand to it. */
    private Handed drawn() {
        if (drawing.methods.isEmpty()) return null;
        int m = drawing.below(drawing.methods.size());
        int[] method = drawing.methods.get(m);
        int receiver = method[1] == 0 ? handleFor(2 + method[0]) : -1;
        if (method[1] == 0 && receiver < 0) return null;
        int argument = method[3] > 0 ? handleFor(method[3]) : drawing.pick(-1, 0, 1, 2, 8);
        return new Handed(m, receiver, argument);
    }

    private int handleFor(int type) {
        List<Integer> fitting = new ArrayList<>();
        for (int h = 0; h < 16; h++) if (set.held(h) > 0 && drawing.fits(set.held(h), type)) fitting.add(h);
        return fitting.isEmpty() || drawing.chance(10) ? -1 : fitting.get(drawing.below(fitting.size()));
    }

    private void runOnce(Handed handed) {
        int runsBefore = set.runs();
        long answer = set.run(handed.method, handed.receiver, handed.argument);
        calls.add("run(" + handed.method + ", " + handed.receiver + ", " + handed.argument + ") -> " + answer);
        claim(CAN_RUN, "a run that is handed what it wants is made", answer != REFUSED && set.runs() == runsBefore + 1);
        int[] method = drawing.methods.get(handed.method);
        if (!isFault(answer)) claim(TYPES, "the result is of its type", isOfType(answer, method[4]));
        if (canChange(method, handed)) return;
        Outcome outcome = new Outcome(isThing(answer) ? OBJECT : answer, typeOf(answer), set.steps());
        Outcome before = outcomes.putIfAbsent(handed, outcome);
        if (before == null) made.add(handed);
        else claim(HANDED, "the same was handed, and it came to " + before + " before", isAsBefore(before, outcome));
    }

    /** Whether something that is handed to the run can be changed between this run and a later one. */
    private boolean canChange(int[] method, Handed handed) {
        boolean receiver = method[1] == 0 && !drawing.immutable(set.held(handed.receiver));
        boolean argument = method[3] > 0 && handed.argument >= 0 && !drawing.immutable(set.held(handed.argument));
        return receiver || argument;
    }

    /** A thing in no handle shows no type. */
    private static boolean isAsBefore(Outcome before, Outcome outcome) {
        boolean typeIsKnown = before.type >= 0 && outcome.type >= 0;
        return before.answer == outcome.answer && before.steps == outcome.steps && (!typeIsKnown || before.type == outcome.type);
    }

    private static boolean isFault(long answer) {
        return answer > FAULT && answer <= FAULT + 4;
    }

    private static boolean isHeld(long answer) {
        return answer >= OBJECT && answer < OBJECT + 16;
    }

    private static boolean isThing(long answer) {
        return isHeld(answer) || answer == UNHELD;
    }

    private int typeOf(long answer) {
        return isHeld(answer) ? set.held((int) (answer - OBJECT)) : -1;
    }

    private boolean isOfType(long answer, int type) {
        if (type == Sets.INT) return answer == (int) answer;
        if (isHeld(answer)) return drawing.fits(typeOf(answer), type);
        return answer == NULL || answer == UNHELD;
    }

    private void lookAtAll() {
        for (int h = 0; h < 16; h++) {
            int type = set.held(h);
            if (type < 2) continue;
            for (int f = 0; f < drawing.fields.size(); f++) if (drawing.owns(type - 2, f)) lookAt(h, type, f);
        }
    }

    private void lookAt(int handle, int type, int field) {
        long answer = set.look(handle, field);
        claim(TYPES, "field " + field + " of handle " + handle + " is of its type", isOfType(answer, drawing.fields.get(field)[2]));
        if (!drawing.immutable(type)) return;
        Long before = found.put(handle * 12 + field, answer);
        boolean asBefore = before == null || before == answer || before == UNHELD && isHeld(answer);
        claim(IMMUTABLE, "field " + field + " of handle " + handle + " was " + before + ", is " + answer, asBefore);
        if (isHeld(answer)) claim(IMMUTABLE, "what it holds is so too", drawing.immutable(typeOf(answer)));
        boolean isPowerless = drawing.powerless(type) && isHeld(answer);
        if (isPowerless) claim(IMMUTABLE, "what a powerless one holds is so too", drawing.powerless(typeOf(answer)));
    }
}
