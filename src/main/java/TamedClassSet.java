import java.util.Arrays;

/**
 * A set of small classes whose code is checked before it may run.
 *
 * While it is open, classes, fields, methods and instructions are added; check() seals it when no
 * rule is broken, and only a sealed set is run. That is why the machine trusts the code it runs:
 * every number in it was looked at by the check, and a sealed set takes no more changes.
 */
public final class TamedClassSet {

    public static final int BAD = -1;
    public static final int FULL = -2;
    public static final int SEALED = -3;
    public static final long NULL = 4294967296L, OBJECT = 8589934592L, FAULT = 17179869184L, UNHELD = 34359738368L, REFUSED = 68719476736L;

    private static final int MAX_CLASSES = 8;
    private static final int MAX_FIELDS = 12;
    private static final int MAX_METHODS = 8;
    private static final int MAX_NAMES = 8;
    private static final int MAX_CODE = 12;
    private static final int MAX_LOCALS = 3;
    private static final int MAX_STACK = 4;
    private static final int MAX_HANDLES = 16;
    private static final int MAX_RUNS = 40;
    private static final int MAX_STEPS = 64;
    private static final int MAX_UNDER_WAY = 6;
    private static final int MAX_MADE = 8;
    private static final int RULES = 7;

    private static final int NONE = -1;
    private static final int NULL_REFERENCE = 0;

    private static final int TYPE_INT = 0;
    private static final int TYPE_CELL = 1;
    private static final int FIRST_CLASS_TYPE = 2;

    private static final int MARK_IMMUTABLE = 1;
    private static final int MARK_POWERLESS = 2;
    private static final int HOW_STATIC = 1;
    private static final int HOW_FINAL = 2;

    private static final int NO_FAULT = 0;
    private static final int FAULT_NULL = 1;
    private static final int FAULT_STEPS = 2;
    private static final int FAULT_DEPTH = 3;
    private static final int FAULT_MADE = 4;

    private static final int OP_PUSH = 0;
    private static final int OP_LOAD = 1;
    private static final int OP_STORE = 2;
    private static final int OP_ADD = 3;
    private static final int OP_SUB = 4;
    private static final int OP_JUMP = 5;
    private static final int OP_ZERO = 6;
    private static final int OP_MAKE = 7;
    private static final int OP_GET = 8;
    private static final int OP_PUT = 9;
    private static final int OP_GETS = 10;
    private static final int OP_PUTS = 11;
    private static final int OP_CALL = 12;
    private static final int OP_CELL = 13;
    private static final int OP_READ = 14;
    private static final int OP_WRITE = 15;
    private static final int OP_SAME = 16;
    private static final int OP_NULL = 17;
    private static final int OP_LIBRARY = 18;
    private static final int OP_RETURN = 19;

    private static final int LIBRARY_ABSOLUTE = 0;
    private static final int LIBRARY_TIME = 2;
    private static final int LIBRARY_DRAWN = 3;

    private final Plan plan;
    private final Fitting fitting;
    private final Rules rules;
    private final Heap heap;
    private final Machine machine;
    private boolean sealed;
    private int runCount;
    private int latestSteps;

    public TamedClassSet() {
        plan = new Plan();
        fitting = new Fitting(plan);
        rules = new Rules(plan, fitting);
        heap = new Heap();
        machine = new Machine(plan, heap);
        sealed = false;
        runCount = 0;
        latestSteps = BAD;
    }

    public int addClass(int parent, int marks) {
        if (sealed) return SEALED;
        boolean parentIsGood = parent == NONE || plan.isClass(parent);
        if (!parentIsGood || marks < 0 || marks > MARK_IMMUTABLE + MARK_POWERLESS) return BAD;
        if (plan.classCount == MAX_CLASSES) return FULL;
        return plan.newClass(parent, marks);
    }

    public int addField(int cls, int how, int type) {
        if (sealed) return SEALED;
        if (!plan.isClass(cls) || how < 0 || how > HOW_STATIC + HOW_FINAL || !plan.isType(type)) return BAD;
        if (plan.fieldCount == MAX_FIELDS) return FULL;
        return plan.newField(cls, how, type);
    }

    public int addMethod(int cls, int how, int name, int param, int result) {
        if (sealed) return SEALED;
        if (!plan.isClass(cls) || how < 0 || how > HOW_STATIC || name < 0 || name >= MAX_NAMES) return BAD;
        boolean paramIsGood = param == NONE || plan.isType(param);
        if (!paramIsGood || !plan.isType(result) || plan.methodNamed(cls, name) != NONE) return BAD;
        if (plan.methodCount == MAX_METHODS) return FULL;
        return plan.newMethod(cls, how, name, param, result);
    }

    public int emit(int method, int op, int a) {
        if (sealed) return SEALED;
        if (!plan.isMethod(method) || op < OP_PUSH || op > OP_RETURN) return BAD;
        if (plan.codeLength[method] == MAX_CODE) return FULL;
        return plan.newInstruction(method, op, a);
    }

    public int check() {
        if (sealed) return 0;
        for (int rule = 1; rule <= RULES; rule++) {
            int place = rules.firstBreach(rule);
            if (place != NONE) return 1000 * rule + place;
        }
        sealed = true;
        return 0;
    }

    public void clear() {
        plan.forgetAll();
        heap.forgetAll();
        sealed = false;
    }

    public int typesAt(int method, int instruction) {
        if (!sealed || !plan.isMethod(method)) return BAD;
        if (!plan.isInstruction(method, instruction)) return BAD;
        return fitting.before[method * MAX_CODE + instruction];
    }

    public long run(int method, int receiver, int argument) {
        if (!sealed || runCount >= MAX_RUNS || !plan.isMethod(method)) return REFUSED;
        if (!receiverFits(method, receiver) || !argumentFits(method, argument)) return REFUSED;
        runCount++;
        boolean argumentIsInt = plan.methodParam[method] == TYPE_INT;
        int value = argumentIsInt ? argument : heap.inHandle(argument);
        int fault = machine.execute(method, heap.inHandle(receiver), value);
        latestSteps = machine.stepCount;
        if (fault != NO_FAULT) return FAULT + fault;
        int type = plan.methodResult[method];
        if (type != TYPE_INT) heap.hold(machine.outcome);
        return answerOf(type, machine.outcome);
    }

    public long look(int handle, int field) {
        int thing = heap.inHandle(handle);
        if (thing == NULL_REFERENCE) return REFUSED;
        int type = heap.types[thing];
        if (type == TYPE_CELL) return heap.slotValue(thing, 0);
        int cls = type - FIRST_CLASS_TYPE;
        if (!plan.isField(field) || !plan.owns(cls, field)) return REFUSED;
        return answerOf(plan.fieldType[field], heap.slotValue(thing, plan.slotOf(cls, field)));
    }

    public int held(int handle) {
        int thing = heap.inHandle(handle);
        return thing == NULL_REFERENCE ? BAD : heap.types[thing];
    }

    public int runs() {
        return runCount;
    }

    public int steps() {
        return latestSteps;
    }

    private boolean receiverFits(int method, int receiver) {
        if (plan.isStaticMethod(method)) return true;
        int type = heap.types[heap.inHandle(receiver)];
        return plan.fits(type, FIRST_CLASS_TYPE + plan.methodClass[method]);
    }

    private boolean argumentFits(int method, int argument) {
        int param = plan.methodParam[method];
        if (param == NONE || param == TYPE_INT || argument == NONE) return true;
        return plan.fits(heap.types[heap.inHandle(argument)], param);
    }

    private long answerOf(int type, int value) {
        if (type == TYPE_INT) return value;
        if (value == NULL_REFERENCE) return NULL;
        int handle = heap.handleOf(value);
        return handle == NONE ? UNHELD : OBJECT + handle;
    }

    /** What was added: the classes, fields, methods and instructions, and what follows from them. */
    private static final class Plan {
        int classCount;
        int fieldCount;
        int methodCount;
        /** For each class the classes of its line, one bit each. */
        final int[] lines = new int[MAX_CLASSES];
        /** For each class the marks of its whole line. */
        final int[] lineMarks = new int[MAX_CLASSES];
        final int[] fieldClass = new int[MAX_FIELDS];
        final int[] fieldHow = new int[MAX_FIELDS];
        final int[] fieldType = new int[MAX_FIELDS];
        final int[] methodClass = new int[MAX_METHODS];
        final int[] methodHow = new int[MAX_METHODS];
        final int[] methodName = new int[MAX_METHODS];
        final int[] methodParam = new int[MAX_METHODS];
        final int[] methodResult = new int[MAX_METHODS];
        final int[] codeLength = new int[MAX_METHODS];
        /** Instruction i of method m stands at m * MAX_CODE + i. */
        final int[] ops = new int[MAX_METHODS * MAX_CODE];
        final int[] operands = new int[MAX_METHODS * MAX_CODE];

        int newClass(int parent, int marks) {
            int cls = classCount;
            int parentLine = parent == NONE ? 0 : lines[parent];
            int parentMarks = parent == NONE ? 0 : lineMarks[parent];
            lines[cls] = parentLine | 1 << cls;
            lineMarks[cls] = parentMarks | marks;
            classCount++;
            return cls;
        }

        int newField(int cls, int how, int type) {
            int field = fieldCount;
            fieldClass[field] = cls;
            fieldHow[field] = how;
            fieldType[field] = type;
            fieldCount++;
            return field;
        }

        int newMethod(int cls, int how, int name, int param, int result) {
            int method = methodCount;
            methodClass[method] = cls;
            methodHow[method] = how;
            methodName[method] = name;
            methodParam[method] = param;
            methodResult[method] = result;
            codeLength[method] = 0;
            methodCount++;
            return method;
        }

        int newInstruction(int method, int op, int operand) {
            int instruction = codeLength[method];
            ops[method * MAX_CODE + instruction] = op;
            operands[method * MAX_CODE + instruction] = operand;
            codeLength[method]++;
            return instruction;
        }

        void forgetAll() {
            classCount = 0;
            fieldCount = 0;
            methodCount = 0;
        }

        boolean isClass(int cls) {
            return cls >= 0 && cls < classCount;
        }

        boolean isType(int type) {
            return type >= 0 && type < FIRST_CLASS_TYPE + classCount;
        }

        boolean isField(int field) {
            return field >= 0 && field < fieldCount;
        }

        boolean isMethod(int method) {
            return method >= 0 && method < methodCount;
        }

        boolean isInstruction(int method, int instruction) {
            return instruction >= 0 && instruction < codeLength[method];
        }

        boolean isStaticField(int field) {
            return (fieldHow[field] & HOW_STATIC) != 0;
        }

        boolean isFinalField(int field) {
            return (fieldHow[field] & HOW_FINAL) != 0;
        }

        boolean isStaticMethod(int method) {
            return (methodHow[method] & HOW_STATIC) != 0;
        }

        boolean isUnder(int cls, int other) {
            return (lines[cls] >> other & 1) != 0;
        }

        boolean fits(int type, int wanted) {
            if (type == wanted) return true;
            boolean bothAreClasses = type >= FIRST_CLASS_TYPE && wanted >= FIRST_CLASS_TYPE;
            return bothAreClasses && (lines[type - FIRST_CLASS_TYPE] >> wanted - FIRST_CLASS_TYPE & 1) != 0;
        }

        boolean isImmutable(int type) {
            if (type < FIRST_CLASS_TYPE) return type == TYPE_INT;
            return lineMarks[type - FIRST_CLASS_TYPE] != 0;
        }

        boolean isPowerless(int type) {
            if (type < FIRST_CLASS_TYPE) return type == TYPE_INT;
            return (lineMarks[type - FIRST_CLASS_TYPE] & MARK_POWERLESS) != 0;
        }

        boolean owns(int cls, int field) {
            return !isStaticField(field) && isUnder(cls, fieldClass[field]);
        }

        /** Where an object of a class keeps an own field: a child's fields may stand between its parent's. */
        int slotOf(int cls, int field) {
            int slot = 0;
            for (int before = 0; before < field; before++) {
                if (owns(cls, before)) slot++;
            }
            return slot;
        }

        int methodNamed(int cls, int name) {
            for (int method = 0; method < methodCount; method++) {
                if (methodClass[method] == cls && methodName[method] == name) return method;
            }
            return NONE;
        }

        /** The method that a call of the told one does; a parent has a smaller number than its children. */
        int chosenMethod(int method, int receiverClass) {
            for (int cls = receiverClass; cls >= 0; cls--) {
                int found = isUnder(receiverClass, cls) ? methodNamed(cls, methodName[method]) : NONE;
                if (found != NONE) return found;
            }
            return method;
        }
    }

    /** Goes along all ways of a method's code and finds the types before each instruction. */
    private static final class Fitting {
        /** The types before each instruction, packed as typesAt tells them; NONE where no way led yet. */
        final int[] before = new int[MAX_METHODS * MAX_CODE];
        private final Plan plan;
        private final int[] stack = new int[MAX_STACK];
        private final int[] locals = new int[MAX_LOCALS];
        /** The instructions that some way leads to, in the order in which they were found. */
        private final int[] reached = new int[MAX_CODE];
        private int reachedCount;
        private int depth;
        private int method;
        private boolean good;

        Fitting(Plan plan) {
            this.plan = plan;
        }

        boolean codeFits(int wanted) {
            begin(wanted);
            arriveAt(0);
            for (int done = 0; done < MAX_CODE && done < reachedCount && good; done++) {
                int instruction = reached[done];
                int at = method * MAX_CODE + instruction;
                unpack(before[at]);
                apply(plan.ops[at], plan.operands[at]);
                leave(instruction, plan.ops[at], plan.operands[at]);
            }
            return good && reachedCount == plan.codeLength[method];
        }

        /** Of code that fits: whether one of the two topmost values before an instruction has an immutable type. */
        boolean comparesImmutable(int wanted, int instruction) {
            unpack(before[wanted * MAX_CODE + instruction]);
            return depth >= 2 && (plan.isImmutable(stack[depth - 1]) || plan.isImmutable(stack[depth - 2]));
        }

        private void begin(int wanted) {
            method = wanted;
            good = true;
            reachedCount = 0;
            depth = 0;
            Arrays.fill(before, method * MAX_CODE, (method + 1) * MAX_CODE, NONE);
            Arrays.fill(locals, NONE);
            int next = 0;
            if (!plan.isStaticMethod(method)) {
                locals[0] = FIRST_CLASS_TYPE + plan.methodClass[method];
                next = 1;
            }
            locals[next] = plan.methodParam[method];
        }

        private int packed() {
            int types = 0;
            for (int k = 0; k < depth; k++) types += stack[k] + 1 << 4 * k;
            for (int l = 0; l < MAX_LOCALS; l++) types += locals[l] + 1 << 16 + 4 * l;
            return types;
        }

        private void unpack(int types) {
            depth = 0;
            for (int k = 0; k < MAX_STACK; k++) {
                stack[k] = (types >> 4 * k & 15) - 1;
                if (stack[k] != NONE) depth = k + 1;
            }
            for (int l = 0; l < MAX_LOCALS; l++) locals[l] = (types >> 16 + 4 * l & 15) - 1;
        }

        /** Every way must bring the same types, so that an instruction is looked at once alone. */
        private void arriveAt(int instruction) {
            if (!good) return;
            if (!plan.isInstruction(method, instruction)) {
                good = false;
                return;
            }
            int at = method * MAX_CODE + instruction;
            int types = packed();
            if (before[at] == NONE) {
                before[at] = types;
                reached[reachedCount] = instruction;
                reachedCount++;
            } else if (before[at] != types) {
                good = false;
            }
        }

        private void leave(int instruction, int op, int a) {
            if (op == OP_JUMP || op == OP_ZERO) arriveAt(a);
            if (op != OP_JUMP && op != OP_RETURN) arriveAt(instruction + 1);
        }

        private void apply(int op, int a) {
            switch (op) {
                case OP_PUSH: put(TYPE_INT); break;
                case OP_LOAD: load(a); break;
                case OP_STORE: store(a); break;
                case OP_ADD: case OP_SUB: take(TYPE_INT); take(TYPE_INT); put(TYPE_INT); break;
                case OP_ZERO: take(TYPE_INT); break;
                case OP_MAKE: make(a); break;
                case OP_GET: case OP_PUT: useField(op, a); break;
                case OP_GETS: case OP_PUTS: useStaticField(op, a); break;
                case OP_CALL: callMethod(a); break;
                case OP_CELL: take(TYPE_INT); put(TYPE_CELL); break;
                case OP_READ: take(TYPE_CELL); put(TYPE_INT); break;
                case OP_WRITE: take(TYPE_INT); take(TYPE_CELL); break;
                case OP_SAME: takeReference(); takeReference(); put(TYPE_INT); break;
                case OP_NULL: putClass(a); break;
                case OP_LIBRARY: demand(a >= LIBRARY_ABSOLUTE && a <= LIBRARY_DRAWN); take(TYPE_INT); put(TYPE_INT); break;
                case OP_RETURN: take(plan.methodResult[method]); break;
                default: break;
            }
        }

        private void demand(boolean holds) {
            if (!holds) good = false;
        }

        private void put(int type) {
            if (depth == MAX_STACK) {
                good = false;
                return;
            }
            stack[depth] = type;
            depth++;
        }

        private void putClass(int cls) {
            demand(plan.isClass(cls));
            if (good) put(FIRST_CLASS_TYPE + cls);
        }

        private int takeAny() {
            if (depth == 0) {
                good = false;
                return NONE;
            }
            depth--;
            return stack[depth];
        }

        private void take(int wanted) {
            demand(plan.fits(takeAny(), wanted));
        }

        private void takeReference() {
            demand(takeAny() != TYPE_INT);
        }

        private void load(int local) {
            demand(local >= 0 && local < MAX_LOCALS && locals[local] != NONE);
            if (good) put(locals[local]);
        }

        private void store(int local) {
            int type = takeAny();
            demand(local >= 0 && local < MAX_LOCALS);
            if (good) locals[local] = type;
        }

        private void make(int cls) {
            demand(plan.isClass(cls));
            if (!good) return;
            for (int field = plan.fieldCount - 1; field >= 0; field--) {
                if (plan.owns(cls, field)) take(plan.fieldType[field]);
            }
            put(FIRST_CLASS_TYPE + cls);
        }

        private void useField(int op, int field) {
            demand(plan.isField(field) && !plan.isStaticField(field));
            if (!good) return;
            if (op == OP_PUT) take(plan.fieldType[field]);
            take(FIRST_CLASS_TYPE + plan.fieldClass[field]);
            if (op == OP_GET) put(plan.fieldType[field]);
        }

        private void useStaticField(int op, int field) {
            demand(plan.isField(field) && plan.isStaticField(field));
            if (!good) return;
            if (op == OP_PUTS) take(plan.fieldType[field]);
            if (op == OP_GETS) put(plan.fieldType[field]);
        }

        private void callMethod(int called) {
            demand(plan.isMethod(called));
            if (!good) return;
            if (plan.methodParam[called] != NONE) take(plan.methodParam[called]);
            if (!plan.isStaticMethod(called)) take(FIRST_CLASS_TYPE + plan.methodClass[called]);
            put(plan.methodResult[called]);
        }
    }

    /** The rules 1 to 7; a later one is looked at only where the earlier ones hold. */
    private static final class Rules {
        private final Plan plan;
        private final Fitting fitting;

        Rules(Plan plan, Fitting fitting) {
            this.plan = plan;
            this.fitting = fitting;
        }

        /** The first place where a rule is broken, or NONE. */
        int firstBreach(int rule) {
            for (int field = 0; rule <= 2 && field < plan.fieldCount; field++) {
                if (rule == 1 ? changesForAll(field) : changesImmutable(field)) return field;
            }
            for (int method = 0; rule > 2 && method < plan.methodCount; method++) {
                if (rule == 3 && overridesBadly(method)) return method;
                if (rule == 4 && !fitting.codeFits(method)) return method;
                for (int instruction = 0; rule > 4 && instruction < plan.codeLength[method]; instruction++) {
                    if (breaks(rule, method, instruction)) return 16 * method + instruction;
                }
            }
            return NONE;
        }

        private boolean changesForAll(int field) {
            if (!plan.isStaticField(field)) return false;
            return !plan.isFinalField(field) || !plan.isPowerless(plan.fieldType[field]);
        }

        private boolean changesImmutable(int field) {
            boolean keeps = plan.isFinalField(field) && plan.isImmutable(plan.fieldType[field]);
            boolean powerless = plan.isPowerless(plan.fieldType[field]);
            for (int cls = 0; cls < plan.classCount; cls++) {
                int type = FIRST_CLASS_TYPE + cls;
                if (!plan.owns(cls, field)) continue;
                if (plan.isImmutable(type) && !keeps) return true;
                if (plan.isPowerless(type) && !powerless) return true;
            }
            return false;
        }

        private boolean overridesBadly(int method) {
            int own = plan.methodClass[method];
            for (int other = 0; other < plan.methodCount; other++) {
                int cls = plan.methodClass[other];
                boolean meets = cls != own && plan.isUnder(own, cls) && plan.methodName[other] == plan.methodName[method];
                if (meets && !agree(method, other)) return true;
            }
            return false;
        }

        private boolean agree(int method, int other) {
            if (plan.isStaticMethod(method) || plan.isStaticMethod(other)) return false;
            return plan.methodParam[method] == plan.methodParam[other]
                    && plan.methodResult[method] == plan.methodResult[other];
        }

        private boolean breaks(int rule, int method, int instruction) {
            int op = plan.ops[method * MAX_CODE + instruction];
            int a = plan.operands[method * MAX_CODE + instruction];
            if (rule == 5) return op == OP_LIBRARY && (a == LIBRARY_TIME || a == LIBRARY_DRAWN);
            if (rule == 6) return (op == OP_PUT || op == OP_PUTS) && plan.isFinalField(a);
            return op == OP_SAME && fitting.comparesImmutable(method, instruction);
        }
    }

    /**
     * The objects and cells, and the handles. A reference is a number from 1 on, 0 is null. There is
     * room for all that the runs of one set can make, since clear gives no run back. A slot holds an
     * int or a reference; the type of the field says which.
     */
    private static final class Heap {
        /** 1 or 2 + the class; NONE for null, so that it fits no type. */
        final int[] types = new int[MAX_RUNS * MAX_MADE + 1];
        private final int[] slots = new int[(MAX_RUNS * MAX_MADE + 1) * MAX_STACK];
        private final int[] handles = new int[MAX_HANDLES];
        private int made;
        private int handleCount;

        Heap() {
            types[NULL_REFERENCE] = NONE;
        }

        void forgetAll() {
            made = 0;
            handleCount = 0;
        }

        int newThing(int type) {
            made++;
            types[made] = type;
            return made;
        }

        /** MAKE takes its values from the stack, so no object has more slots than a stack has values. */
        int slotValue(int thing, int slot) {
            return slots[thing * MAX_STACK + slot];
        }

        void setSlot(int thing, int slot, int value) {
            slots[thing * MAX_STACK + slot] = value;
        }

        int inHandle(int handle) {
            return handle >= 0 && handle < handleCount ? handles[handle] : NULL_REFERENCE;
        }

        int handleOf(int thing) {
            for (int handle = 0; handle < handleCount; handle++) {
                if (handles[handle] == thing) return handle;
            }
            return NONE;
        }

        void hold(int thing) {
            boolean wantsNone = thing == NULL_REFERENCE || handleOf(thing) != NONE;
            if (wantsNone || handleCount == MAX_HANDLES) return;
            handles[handleCount] = thing;
            handleCount++;
        }
    }

    /** One method under way. */
    private static final class Frame {
        int method;
        int next;
        final int[] locals = new int[MAX_LOCALS];
        private final int[] stack = new int[MAX_STACK];
        private int depth;

        void begin(int startedMethod) {
            method = startedMethod;
            next = 0;
            depth = 0;
        }

        void push(int value) {
            stack[depth] = value;
            depth++;
        }

        int pop() {
            depth--;
            return stack[depth];
        }
    }

    /** Runs the methods of a sealed set. */
    private static final class Machine {
        int stepCount;
        int outcome;
        private final Plan plan;
        private final Heap heap;
        private final Frame[] frames = new Frame[MAX_UNDER_WAY];
        private int underWay;
        private int madeCount;

        Machine(Plan plan, Heap heap) {
            this.plan = plan;
            this.heap = heap;
            for (int k = 0; k < MAX_UNDER_WAY; k++) frames[k] = new Frame();
        }

        int execute(int method, int receiver, int argument) {
            underWay = 0;
            madeCount = 0;
            enter(method, receiver, argument);
            for (stepCount = 1; stepCount <= MAX_STEPS; stepCount++) {
                int fault = step(frames[underWay - 1]);
                if (fault != NO_FAULT || underWay == 0) return fault;
            }
            stepCount = MAX_STEPS;
            return FAULT_STEPS;
        }

        private void enter(int method, int receiver, int argument) {
            boolean isStatic = plan.isStaticMethod(method);
            Frame frame = frames[underWay];
            underWay++;
            if (isStatic) {
                frame.begin(method);
                frame.locals[0] = argument;
            } else {
                frame.begin(plan.chosenMethod(method, heap.types[receiver] - FIRST_CLASS_TYPE));
                frame.locals[0] = receiver;
                frame.locals[1] = argument;
            }
        }

        private int step(Frame frame) {
            int at = frame.method * MAX_CODE + frame.next;
            int op = plan.ops[at];
            int a = plan.operands[at];
            frame.next++;
            switch (op) {
                case OP_PUSH: frame.push(a); return NO_FAULT;
                case OP_LOAD: frame.push(frame.locals[a]); return NO_FAULT;
                case OP_STORE: frame.locals[a] = frame.pop(); return NO_FAULT;
                case OP_ADD: case OP_SUB: case OP_SAME: return combine(frame, op);
                case OP_JUMP: frame.next = a; return NO_FAULT;
                case OP_ZERO: if (frame.pop() == 0) frame.next = a; return NO_FAULT;
                case OP_MAKE: return make(frame, a);
                case OP_GET: case OP_PUT: return useField(frame, op, a);
                // Rules 1 and 6 leave no PUTS in a sealed set: a static field stays 0 or null, which is 0 too.
                case OP_GETS: frame.push(0); return NO_FAULT;
                case OP_CALL: return callMethod(frame, a);
                case OP_CELL: return makeCell(frame);
                case OP_READ: case OP_WRITE: return useCell(frame, op);
                case OP_NULL: frame.push(NULL_REFERENCE); return NO_FAULT;
                case OP_LIBRARY: return library(frame, a);
                case OP_RETURN: return leave(frame);
                default: return NO_FAULT;
            }
        }

        private int combine(Frame frame, int op) {
            int y = frame.pop();
            int x = frame.pop();
            if (op == OP_ADD) frame.push(x + y);
            if (op == OP_SUB) frame.push(x - y);
            if (op == OP_SAME) frame.push(x == y ? 1 : 0);
            return NO_FAULT;
        }

        private int make(Frame frame, int cls) {
            if (madeCount == MAX_MADE) return FAULT_MADE;
            madeCount++;
            int thing = heap.newThing(FIRST_CLASS_TYPE + cls);
            int ownFields = plan.slotOf(cls, plan.fieldCount);
            for (int slot = ownFields - 1; slot >= 0; slot--) heap.setSlot(thing, slot, frame.pop());
            frame.push(thing);
            return NO_FAULT;
        }

        private int makeCell(Frame frame) {
            if (madeCount == MAX_MADE) return FAULT_MADE;
            madeCount++;
            int thing = heap.newThing(TYPE_CELL);
            heap.setSlot(thing, 0, frame.pop());
            frame.push(thing);
            return NO_FAULT;
        }

        private int useField(Frame frame, int op, int field) {
            int value = op == OP_PUT ? frame.pop() : 0;
            int thing = frame.pop();
            if (thing == NULL_REFERENCE) return FAULT_NULL;
            int slot = plan.slotOf(heap.types[thing] - FIRST_CLASS_TYPE, field);
            if (op == OP_PUT) heap.setSlot(thing, slot, value);
            else frame.push(heap.slotValue(thing, slot));
            return NO_FAULT;
        }

        private int useCell(Frame frame, int op) {
            int value = op == OP_WRITE ? frame.pop() : 0;
            int thing = frame.pop();
            if (thing == NULL_REFERENCE) return FAULT_NULL;
            if (op == OP_WRITE) heap.setSlot(thing, 0, value);
            else frame.push(heap.slotValue(thing, 0));
            return NO_FAULT;
        }

        private int callMethod(Frame frame, int method) {
            boolean hasReceiver = !plan.isStaticMethod(method);
            int argument = plan.methodParam[method] == NONE ? 0 : frame.pop();
            int receiver = hasReceiver ? frame.pop() : NULL_REFERENCE;
            if (hasReceiver && receiver == NULL_REFERENCE) return FAULT_NULL;
            if (underWay == MAX_UNDER_WAY) return FAULT_DEPTH;
            enter(method, receiver, argument);
            return NO_FAULT;
        }

        private int library(Frame frame, int function) {
            int x = frame.pop();
            frame.push(function == LIBRARY_ABSOLUTE ? Math.abs(x) : Integer.bitCount(x));
            return NO_FAULT;
        }

        private int leave(Frame frame) {
            outcome = frame.pop();
            underWay--;
            if (underWay > 0) frames[underWay - 1].push(outcome);
            return NO_FAULT;
        }
    }
}
