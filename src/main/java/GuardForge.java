import java.util.Arrays;

/**
 * Policies over calls outside, programs of a stack machine, and the guards that make the
 * second obey the first. All rows are made when the object is made; no call makes new ones.
 */
public final class GuardForge {
    public static final int NONE = -1;

    private static final int MOST_BYTES = 8192;

    private static final int CALLS = 16;
    private static final int ANY_CALL = 16;
    private static final int MOST_COUNTERS = 6;
    private static final int MOST_NODES = 24;
    private static final int MOST_RULES = 4;
    private static final int MOST_WAYS = 8;
    private static final int MOST_GUARDS = 4;
    private static final int MOST_LETTERS = 512;
    private static final int MOST_SETS = 63;

    /** What a guard or an interval is about: arguments 0 .. 2, then counters 0 .. 5. */
    private static final int SUBJECTS = 9;
    private static final int FIRST_COUNTER = 3;

    private static final int MOST_FUNCTIONS = 12;
    private static final int MOST_CODE = 400;
    private static final int MOST_HANDLERS = 6;
    private static final int MOST_LOCALS = 12;
    private static final int MOST_STACK = 16;

    private static final int PUSH = 0;
    private static final int POP = 1;
    private static final int DUP = 2;
    private static final int SWAP = 3;
    private static final int LOAD = 4;
    private static final int STORE = 5;
    private static final int ADD = 6;
    private static final int SUB = 7;
    private static final int MUL = 8;
    private static final int DIV = 9;
    private static final int REM = 10;
    private static final int AND = 11;
    private static final int OR = 12;
    private static final int XOR = 13;
    private static final int SHL = 14;
    private static final int SHR = 15;
    private static final int LESS = 16;
    private static final int SAME = 17;
    private static final int JUMP = 18;
    private static final int IF = 19;
    private static final int IFNOT = 20;
    private static final int NEW = 21;
    private static final int GET = 22;
    private static final int PUT = 23;
    private static final int SIZE = 24;
    private static final int CALL = 25;
    private static final int HOST = 26;
    private static final int RETURN = 27;
    private static final int THROW = 28;
    private static final int GUARD = 29;

    private final byte[] bytes = new byte[MOST_BYTES];
    private final byte[] written = new byte[MOST_BYTES];
    private int byteCount;
    private int writtenCount;
    private int fault;
    private int faultPlace = NONE;

    // What is loaded or forged is made in the spare one and changed over only if it is right,
    // so that a fault leaves the old one as it was.
    private Policy policy = new Policy();
    private Policy sparePolicy = new Policy();
    private Program program = new Program();
    private Program forgedProgram = new Program();
    private Program spareProgram = new Program();
    private boolean hasProgram;
    private boolean hasForged;

    private final PolicyReader policyReader = new PolicyReader();
    private final StateMaker stateMaker = new StateMaker();
    private final ProgramReader programReader = new ProgramReader();
    private final Verifier verifier = new Verifier();
    private final Flow flow = new Flow();
    private final Machine machine = new Machine();
    private final Watch watch = new Watch();

    public GuardForge() {
        // A new policy, machine and watch are as the document says of a new object.
    }

    public boolean giveBytes(long v, int n) {
        if (n < 1 || n > 8 || n > MOST_BYTES - byteCount) {
            return false;
        }
        for (int k = n - 1; k >= 0; k--) {
            bytes[byteCount] = (byte) (v >> (8 * k));
            byteCount++;
        }
        return true;
    }

    public boolean cutBytes(int n) {
        if (n < 0 || n > byteCount) {
            return false;
        }
        byteCount = n;
        return true;
    }

    public boolean pokeByte(int k, int b) {
        if (k < 0 || k >= byteCount) {
            return false;
        }
        bytes[k] = (byte) b;
        return true;
    }

    public void turnBytes() {
        System.arraycopy(written, 0, bytes, 0, writtenCount);
        byteCount = writtenCount;
    }

    public int loadPolicy() {
        fault = policyReader.parse(bytes, byteCount, sparePolicy) ? policyReader.findNames() : policyReader.fault;
        faultPlace = policyReader.faultPlace;
        if (fault == 0) {
            faultPlace = byteCount;
            fault = !sparePolicy.letters.divide(sparePolicy) ? 7 : !stateMaker.make(sparePolicy) ? 8 : 0;
        }
        if (fault != 0) {
            return fault;
        }
        faultPlace = NONE;
        Policy old = policy;
        policy = sparePolicy;
        sparePolicy = old;
        program.mayReady = false;
        hasForged = false;
        machine.forget();
        watch.begin();
        return 0;
    }

    public int loadProgram() {
        fault = programReader.read(bytes, byteCount, spareProgram);
        faultPlace = programReader.faultPlace;
        if (fault == 0) {
            fault = verifier.verify(spareProgram);
            faultPlace = verifier.faultPlace;
        }
        if (fault != 0) {
            return fault;
        }
        faultPlace = NONE;
        Program old = program;
        program = spareProgram;
        spareProgram = old;
        hasProgram = true;
        hasForged = false;
        machine.forget();
        return 0;
    }

    public int saveProgram(boolean forged) {
        if (!has(forged)) {
            return NONE;
        }
        writtenCount = pick(forged).write(written);
        return writtenCount;
    }

    public int forgeIt() {
        if (!hasProgram || program.hasGuard()) {
            return NONE;
        }
        flow.settle(program, policy);
        int guards = flow.forge(program, policy, spareProgram);
        if (guards < 0) {
            return guards;
        }
        verifier.verify(spareProgram);
        Program old = forgedProgram;
        forgedProgram = spareProgram;
        spareProgram = old;
        hasForged = true;
        return guards;
    }

    public int certifyIt(boolean forged) {
        if (!has(forged)) {
            return NONE;
        }
        Program of = pick(forged);
        flow.settle(of, policy);
        for (int f = 0; f < of.functions; f++) {
            for (int i = 0; i < of.size[f]; i++) {
                if (!flow.passes(of, policy, f, i)) {
                    return 1 + 512 * f + i;
                }
            }
        }
        return 0;
    }

    public int addAnswer(int v) {
        return machine.takeAnswer(v);
    }

    public void dropAnswers() {
        machine.answerCount = 0;
    }

    public int runIt(boolean forged, int fuel) {
        if (!has(forged) || fuel < 0 || fuel > Machine.MOST_FUEL) {
            return NONE;
        }
        machine.run(pick(forged), policy, fuel);
        return machine.figures[Machine.ENDED];
    }

    public int endOf(int what) {
        return machine.hasRun() && what >= 0 && what < Machine.FIGURES ? machine.figures[what] : NONE;
    }

    public int traceAt(int i, int what) {
        return machine.hasRun() ? machine.traced(i, what) : 0;
    }

    public int counterOf(int k, boolean watch) {
        if (k < 0 || k >= policy.counters || !watch && !machine.hasRun()) {
            return NONE;
        }
        return watch ? this.watch.counters[k] : machine.watch.counters[k];
    }

    public void resetWatch() {
        watch.begin();
    }

    public int watchCall(int number, int a, int b, int c) {
        if (number < 0 || number >= CALLS || !watch.pass(policy, number, a, b, c)) {
            return NONE;
        }
        return watch.state;
    }

    public int wayOf(int state, int letter) {
        if (state < 0 || state >= policy.states || letter < 0 || letter >= policy.letters.count()) {
            return NONE;
        }
        return policy.to[state * MOST_LETTERS + letter];
    }

    public int letterOf(int letter, int what) {
        if (letter < 0 || letter >= policy.letters.count() || what < 0 || what > SUBJECTS) {
            return 0;
        }
        return what == 0 ? policy.letters.callAt(letter) : policy.letters.leastAt(letter, what - 1);
    }

    public int codeOf(boolean forged, int function, int i, int what) {
        if (!hasInstruction(forged, function, i)) {
            return 0;
        }
        Program of = pick(forged);
        int at = function * MOST_CODE + i;
        switch (what) {
            case 0:
                return of.op[at];
            case 1:
                return of.operand[at];
            case 2:
                return of.depth[at];
            case 3:
                return of.types[at];
            case 4:
                return of.isGuarded(function, i) ? 1 : 0;
            case 5:
                flow.settle(of, policy);
                return flow.needs(of, policy, at) ? 1 : 0;
            default:
                return 0;
        }
    }

    public long mayOf(boolean forged, int function, int i) {
        if (!hasInstruction(forged, function, i)) {
            return 0;
        }
        Program of = pick(forged);
        flow.settle(of, policy);
        return of.may[function * MOST_CODE + i];
    }

    public int functionOf(boolean forged, int function, int what) {
        if (!hasFunction(forged, function)) {
            return NONE;
        }
        Program of = pick(forged);
        switch (what) {
            case 0:
                return of.params[function];
            case 1:
                return of.locals[function];
            case 2:
                return of.result[function];
            case 3:
                return of.size[function];
            case 4:
                return of.handlers[function];
            default:
                return NONE;
        }
    }

    public int byteOf(int k, boolean into) {
        if (k < 0 || k >= (into ? byteCount : writtenCount)) {
            return NONE;
        }
        return (into ? bytes[k] : written[k]) & 255;
    }

    public int lookAt(int which) {
        switch (which) {
            case 0:
                return policy.counters;
            case 1:
                return policy.nodes;
            case 2:
                return policy.letters.count();
            case 3:
                return policy.sets;
            case 4:
                return policy.states;
            case 5:
                return hasProgram ? program.functions : NONE;
            case 6:
                return hasProgram ? program.codeCount() : NONE;
            case 7:
                return hasForged ? forgedProgram.codeCount() : NONE;
            case 8:
                return machine.answerCount;
            case 9:
                return byteCount;
            case 10:
                return writtenCount;
            case 11:
                return fault;
            case 12:
                return faultPlace;
            case 13:
                return watch.state;
            default:
                return NONE;
        }
    }

    private boolean has(boolean forged) {
        return forged ? hasForged : hasProgram;
    }

    private Program pick(boolean forged) {
        return forged ? forgedProgram : program;
    }

    private boolean hasFunction(boolean forged, int function) {
        return has(forged) && function >= 0 && function < pick(forged).functions;
    }

    private boolean hasInstruction(boolean forged, int function, int i) {
        return hasFunction(forged, function) && i >= 0 && i < pick(forged).size[function];
    }

    /** The tokens of a text, up to its end or to the first that is none. */
    private static final class Tokens {
        static final int END = 0;
        static final int BAD = 1;
        static final int OPEN = 2;
        static final int CLOSE = 3;
        static final int NUMBER = 4;
        static final int NAME = 5;
        static final int WORD = 6;

        static final int COUNTER_WORD = 0;
        static final int NODE_WORD = 1;
        static final int UP_WORD = 2;
        static final int ZERO_WORD = 3;
        static final int GO_WORD = 4;
        static final int ARG_WORD = 5;
        static final int COUNT_WORD = 6;
        static final int NOT_WORD = 7;
        static final int ANY_WORD = 8;
        static final int LESS_WORD = 9;
        static final int SAME_WORD = 10;
        static final int MORE_WORD = 11;
        private static final int WORDS = 12;
        private static final String ALL_WORDS = "counter node up zero go arg count not any less same more ";

        private static final int MOST_NAME = 12;
        private static final long TOO_MUCH = 1L << 40;

        final int[] kind = new int[MOST_BYTES + 1];
        final int[] place = new int[MOST_BYTES + 1];
        final long[] value = new long[MOST_BYTES + 1];
        int count;
        private final long[] words = new long[WORDS];

        Tokens() {
            int word = 0;
            int length = ALL_WORDS.length();
            for (int k = 0; k < length && word < WORDS; k++) {
                char c = ALL_WORDS.charAt(k);
                if (c == ' ') {
                    word++;
                } else {
                    words[word] = withLetter(words[word], c);
                }
            }
        }

        /** A name as one number: five bits a letter, which twelve letters leave room for. */
        private static long withLetter(long name, int letter) {
            return name << 5 | letter - 'a' + 1;
        }

        void read(byte[] text, int length) {
            count = 0;
            int end = 0;
            for (int at = 0; at < length; at = Math.max(at + 1, end)) {
                int b = text[at];
                end = at + 1;
                if (b == '(') {
                    add(OPEN, at, 0);
                } else if (b == ')') {
                    add(CLOSE, at, 0);
                } else if (b != ' ' && b != '\n') {
                    end = runEnd(text, at, length);
                    addRun(text, at, end);
                    if (kind[count - 1] == BAD) {
                        return;
                    }
                }
            }
            add(END, length, 0);
        }

        private void add(int tokenKind, int at, long tokenValue) {
            kind[count] = tokenKind;
            place[count] = at;
            value[count] = tokenValue;
            count++;
        }

        private static boolean isLetter(int b) {
            return b >= 'a' && b <= 'z';
        }

        private static boolean isDigit(int b) {
            return b >= '0' && b <= '9';
        }

        private static int runEnd(byte[] text, int at, int length) {
            int end = at;
            while (end < length && (isLetter(text[end]) || isDigit(text[end]) || text[end] == '-')) {
                end++;
            }
            return end;
        }

        private void addRun(byte[] text, int at, int end) {
            if (end == at) {
                add(BAD, at, 0);
            } else if (isLetter(text[at])) {
                addName(text, at, end);
            } else {
                addNumber(text, at, end);
            }
        }

        private void addName(byte[] text, int at, int end) {
            boolean right = end - at <= MOST_NAME;
            long name = 0;
            for (int k = at; k < end && right; k++) {
                right = isLetter(text[k]);
                name = withLetter(name, text[k]);
            }
            if (!right) {
                add(BAD, at, 0);
                return;
            }
            for (int w = 0; w < WORDS; w++) {
                if (words[w] == name) {
                    add(WORD, at, w);
                    return;
                }
            }
            add(NAME, at, name);
        }

        private void addNumber(byte[] text, int at, int end) {
            boolean minus = text[at] == '-';
            int from = minus ? at + 1 : at;
            boolean right = from < end;
            long size = 0;
            for (int k = from; k < end && right; k++) {
                right = isDigit(text[k]);
                // Held back so that digits of any length can't wrap around into the range.
                size = Math.min(TOO_MUCH, size * 10 + text[k] - '0');
            }
            long number = minus ? -size : size;
            right = right && number >= Integer.MIN_VALUE && number <= Integer.MAX_VALUE;
            add(right ? NUMBER : BAD, at, right ? number : 0);
        }
    }

    /** Reads a text into the clauses of a policy, and says the first fault of it. */
    private static final class PolicyReader {
        int fault;
        int faultPlace;
        private int at;
        private int taken;
        private Policy policy;
        private final Tokens tokens = new Tokens();
        private final long[] counterNames = new long[MOST_COUNTERS];
        private final long[] nodeNames = new long[MOST_NODES];
        // Names may be used ahead of their places, so they are kept until the text has ended.
        private final long[] targetName = new long[Policy.MOST_CLAUSES];
        private final int[] targetPlace = new int[Policy.MOST_CLAUSES];
        private final long[] guardName = new long[Policy.MOST_ALL_GUARDS];
        private final int[] guardPlace = new int[Policy.MOST_ALL_GUARDS];

        /** False if there is a fault, 1 to 4. */
        boolean parse(byte[] text, int length, Policy into) {
            tokens.read(text, length);
            policy = into;
            policy.empty();
            at = 0;
            fault = 0;
            faultPlace = NONE;
            for (int n = 0; n <= MOST_COUNTERS + MOST_NODES && !isAt(Tokens.END); n++) {
                if (policy.nodes == MOST_NODES || !take(Tokens.OPEN)) {
                    return refuse();
                }
                boolean counterFits = policy.nodes == 0 && policy.counters < MOST_COUNTERS;
                boolean right = takeWord(Tokens.NODE_WORD) ? readNode()
                        : counterFits && takeWord(Tokens.COUNTER_WORD) ? readCounter() : refuse();
                if (!right) {
                    return false;
                }
            }
            return policy.nodes > 0 || refuseLate(4, length);
        }

        private boolean isAt(int kind) {
            return tokens.kind[at] == kind;
        }

        /** Says what is wrong with the token that is there. */
        private boolean refuse() {
            int kind = tokens.kind[at];
            fault = kind == Tokens.BAD ? 1 : kind == Tokens.END ? 3 : 2;
            faultPlace = tokens.place[at];
            return false;
        }

        private boolean refuseLate(int code, int place) {
            fault = code;
            faultPlace = place;
            return false;
        }

        // Whatever takes a token goes on behind it, or stays and answers false. The last token
        // of all is an end or a bad one, which nothing takes, so there is always one to look at.

        private boolean take(int kind) {
            boolean right = tokens.kind[at] == kind;
            at += right ? 1 : 0;
            return right;
        }

        private boolean takeWord(int word) {
            boolean right = tokens.kind[at] == Tokens.WORD && tokens.value[at] == word;
            at += right ? 1 : 0;
            return right;
        }

        private boolean takeNumber(int least, int most) {
            long value = tokens.value[at];
            boolean right = tokens.kind[at] == Tokens.NUMBER && value >= least && value <= most;
            taken = (int) value;
            at += right ? 1 : 0;
            return right;
        }

        private boolean takeNewName(long[] names, int count) {
            boolean right = tokens.kind[at] == Tokens.NAME;
            for (int k = 0; k < count; k++) {
                right = right && names[k] != tokens.value[at];
            }
            names[count] = tokens.value[at];
            at += right ? 1 : 0;
            return right;
        }

        private boolean readCounter() {
            int counter = policy.counters;
            if (!takeNewName(counterNames, counter) || !takeNumber(1, 15)) {
                return refuse();
            }
            policy.most[counter] = taken;
            policy.clauseFrom[counter] = policy.clauses;
            policy.counters++;
            for (int n = 0; n < MOST_RULES && take(Tokens.OPEN); n++) {
                if (!readRule()) {
                    return false;
                }
            }
            return take(Tokens.CLOSE) || refuse();
        }

        private boolean readNode() {
            int node = policy.nodes;
            if (!takeNewName(nodeNames, node)) {
                return refuse();
            }
            policy.clauseFrom[policy.counters + node] = policy.clauses;
            policy.nodes++;
            for (int n = 0; n < MOST_WAYS && take(Tokens.OPEN); n++) {
                if (!readWay()) {
                    return false;
                }
            }
            return take(Tokens.CLOSE) || refuse();
        }

        private boolean readRule() {
            boolean up = takeWord(Tokens.UP_WORD);
            if (!up && !takeWord(Tokens.ZERO_WORD)) {
                return refuse();
            }
            policy.clauseTo[policy.clauses] = up ? 1 : 0;
            return readClause() && (take(Tokens.CLOSE) || refuse());
        }

        private boolean readWay() {
            if (!takeWord(Tokens.GO_WORD)) {
                return refuse();
            }
            int way = policy.clauses;
            if (!readClause()) {
                return false;
            }
            targetName[way] = tokens.value[at];
            targetPlace[way] = tokens.place[at];
            return take(Tokens.NAME) && take(Tokens.CLOSE) || refuse();
        }

        /** The call and the guards of a rule or a way. */
        private boolean readClause() {
            boolean any = takeWord(Tokens.ANY_WORD);
            if (!any && !takeNumber(0, CALLS - 1)) {
                return refuse();
            }
            policy.clauseCall[policy.clauses] = any ? ANY_CALL : taken;
            for (int n = 0; n < MOST_GUARDS && take(Tokens.OPEN); n++) {
                if (!readGuard()) {
                    return false;
                }
            }
            policy.clauses++;
            policy.guardFrom[policy.clauses] = policy.guards;
            return true;
        }

        private boolean readGuard() {
            int nots = 0;
            while (nots < tokens.count && takeWord(Tokens.NOT_WORD)) {
                nots++;
                if (!take(Tokens.OPEN)) {
                    return refuse();
                }
            }
            if (!readSubject()) {
                return false;
            }
            int guard = policy.guards;
            int kind = takeWord(Tokens.LESS_WORD) ? 0 : takeWord(Tokens.SAME_WORD) ? 1 : 2;
            if (kind == 2 && !takeWord(Tokens.MORE_WORD)) {
                return refuse();
            }
            if (!takeNumber(Integer.MIN_VALUE, Integer.MAX_VALUE)) {
                return refuse();
            }
            policy.guardKind[guard] = kind;
            policy.guardNumber[guard] = taken;
            policy.guardNot[guard] = nots % 2 == 1;
            policy.guards++;
            for (int n = 0; n <= nots; n++) {
                if (!take(Tokens.CLOSE)) {
                    return refuse();
                }
            }
            return true;
        }

        private boolean readSubject() {
            int guard = policy.guards;
            boolean argument = takeWord(Tokens.ARG_WORD);
            if (!argument && !takeWord(Tokens.COUNT_WORD)) {
                return refuse();
            }
            guardPlace[guard] = tokens.place[at];
            guardName[guard] = tokens.value[at];
            if (argument ? !takeNumber(0, FIRST_COUNTER - 1) : !take(Tokens.NAME)) {
                return refuse();
            }
            policy.guardSubject[guard] = argument ? taken : FIRST_COUNTER;
            return true;
        }

        /** Puts numbers for names, in the order of the text: the fault, 5 or 6, or 0. */
        int findNames() {
            policy.close();
            for (int q = 0; q < policy.clauses && fault == 0; q++) {
                boolean right = true;
                for (int g = policy.guardFrom[q]; g < policy.guardFrom[q + 1] && right; g++) {
                    right = findSubject(policy.clauseCall[q], g);
                }
                if (right && q >= policy.firstWay()) {
                    findTarget(q);
                }
            }
            return fault;
        }

        private boolean findSubject(int call, int guard) {
            int subject = policy.guardSubject[guard];
            if (subject < FIRST_COUNTER) {
                return call == ANY_CALL || subject < call % 4 || refuseLate(6, guardPlace[guard]);
            }
            for (int k = 0; k < policy.counters; k++) {
                if (counterNames[k] == guardName[guard]) {
                    policy.guardSubject[guard] = FIRST_COUNTER + k;
                    return true;
                }
            }
            return refuseLate(5, guardPlace[guard]);
        }

        private void findTarget(int way) {
            for (int n = 0; n < policy.nodes; n++) {
                if (nodeNames[n] == targetName[way]) {
                    policy.clauseTo[way] = n;
                    return;
                }
            }
            refuseLate(5, targetPlace[way]);
        }
    }

    /** Counters, nodes and their clauses as read, and the table of states made of them. */
    private static final class Policy {
        static final int MOST_CLAUSES = MOST_COUNTERS * MOST_RULES + MOST_NODES * MOST_WAYS;
        static final int MOST_ALL_GUARDS = MOST_CLAUSES * MOST_GUARDS;

        int counters;
        int nodes;
        int sets;
        int states;
        int clauses;
        int guards;
        /** Bit c: a rule is about call c. */
        int ruledCalls;
        final int[] most = new int[MOST_COUNTERS];
        /** Where the clauses of counters, then of nodes begin: rules first, then ways. */
        final int[] clauseFrom = new int[MOST_COUNTERS + MOST_NODES + 1];
        final int[] clauseCall = new int[MOST_CLAUSES];
        /** The node a way goes to; of a rule 1 for up, 0 for zero. */
        final int[] clauseTo = new int[MOST_CLAUSES];
        final int[] guardFrom = new int[MOST_CLAUSES + 1];
        final int[] guardSubject = new int[MOST_ALL_GUARDS];
        /** 0 less, 1 same, 2 more. */
        final int[] guardKind = new int[MOST_ALL_GUARDS];
        final int[] guardNumber = new int[MOST_ALL_GUARDS];
        final boolean[] guardNot = new boolean[MOST_ALL_GUARDS];
        final Letters letters = new Letters();
        final int[] to = new int[MOST_SETS * MOST_LETTERS];
        /** Of call c and state p: the states that letters of c lead to from p. */
        final long[] reach = new long[CALLS * MOST_SETS];
        /** Of call c: the states that every letter of c leads back to themselves. */
        final long[] stays = new long[CALLS];

        /** (node a (go any a)): one state and one letter a call; its way is in the table alone. */
        Policy() {
            nodes = 1;
            sets = 1;
            states = 1;
            for (int c = 0; c < CALLS; c++) {
                reach[c * MOST_SETS] = 1;
                stays[c] = 1;
            }
        }

        void empty() {
            counters = 0;
            nodes = 0;
            clauses = 0;
            guards = 0;
        }

        /** Done when all is read: where the last clauses end, and which calls have rules. */
        void close() {
            clauseFrom[counters + nodes] = clauses;
            ruledCalls = 0;
            for (int q = 0; q < firstWay(); q++) {
                ruledCalls |= clauseCall[q] == ANY_CALL ? (1 << CALLS) - 1 : 1 << clauseCall[q];
            }
        }

        int firstWay() {
            return clauseFrom[counters];
        }

        boolean isFor(int clause, int call) {
            return clauseCall[clause] == call || clauseCall[clause] == ANY_CALL;
        }

        /** Whether a clause is for this call, and its guards are true of arguments and counters. */
        boolean holds(int clause, int call, int[] values) {
            if (!isFor(clause, call)) {
                return false;
            }
            for (int g = guardFrom[clause]; g < guardFrom[clause + 1]; g++) {
                int subject = guardSubject[g];
                boolean there = subject >= FIRST_COUNTER || subject < call % 4;
                if ((there && isTrue(g, values[subject])) == guardNot[g]) {
                    return false;
                }
            }
            return true;
        }

        private boolean isTrue(int guard, int value) {
            int number = guardNumber[guard];
            int kind = guardKind[guard];
            return kind == 0 ? value < number : kind == 1 ? value == number : value > number;
        }

        void stepCounters(int[] counterRow, int call, int[] values) {
            for (int k = 0; k < counters; k++) {
                for (int q = clauseFrom[k]; q < clauseFrom[k + 1]; q++) {
                    if (holds(q, call, values)) {
                        counterRow[k] = clauseTo[q] == 0 ? 0 : Math.min(most[k], counterRow[k] + 1);
                        break;
                    }
                }
            }
        }
    }

    /** The intervals of each call, and the numbers of its letters. */
    private static final class Letters {
        /** Least ints of intervals, rising, row by row: SUBJECTS rows for each call. */
        private final int[] starts = new int[2 * MOST_LETTERS + CALLS * SUBJECTS];
        private final int[] rowFrom = new int[CALLS * SUBJECTS + 1];
        private final int[] first = new int[CALLS + 1];

        /** Nothing is divided, so there is one letter a call. */
        Letters() {
            for (int row = 0; row < CALLS * SUBJECTS; row++) {
                boolean argument = row % SUBJECTS < row / SUBJECTS % 4;
                starts[row] = argument ? Integer.MIN_VALUE : 0;
                rowFrom[row + 1] = row + 1;
            }
            for (int c = 0; c < CALLS; c++) {
                first[c + 1] = c + 1;
            }
        }

        int count() {
            return first[CALLS];
        }

        int firstOf(int call) {
            return first[call];
        }

        /** False if there are too many letters. */
        boolean divide(Policy policy) {
            int end = 0;
            for (int c = 0; c < CALLS; c++) {
                int product = 1;
                for (int s = 0; s < SUBJECTS; s++) {
                    int from = end;
                    rowFrom[c * SUBJECTS + s] = from;
                    end = divideRow(policy, c, s, from);
                    if (end == NONE || product * (end - from) > MOST_LETTERS - first[c]) {
                        return false;
                    }
                    product *= end - from;
                }
                first[c + 1] = first[c] + product;
            }
            rowFrom[CALLS * SUBJECTS] = end;
            return true;
        }

        /** Where the row ends; NONE if it alone is too long. */
        private int divideRow(Policy policy, int call, int subject, int from) {
            boolean argument = subject < FIRST_COUNTER;
            boolean there = argument ? subject < call % 4 : subject - FIRST_COUNTER < policy.counters;
            starts[from] = argument && there ? Integer.MIN_VALUE : 0;
            int end = from + 1;
            if (!there) {
                return end;
            }
            int highest = argument ? Integer.MAX_VALUE : policy.most[subject - FIRST_COUNTER];
            for (int q = policy.firstWay(); q < policy.clauses; q++) {
                for (int g = policy.guardFrom[q]; g < policy.guardFrom[q + 1]; g++) {
                    if (!policy.isFor(q, call) || policy.guardSubject[g] != subject) {
                        continue;
                    }
                    long number = policy.guardNumber[g];
                    if (policy.guardKind[g] != 2 && number <= highest) {
                        end = insert(from, end, number);
                    }
                    if (policy.guardKind[g] != 0 && number + 1 <= highest) {
                        end = insert(from, end, number + 1);
                    }
                    if (end - from > MOST_LETTERS) {
                        return NONE;
                    }
                }
            }
            return end;
        }

        private int insert(int from, int end, long start) {
            int k = end;
            while (k > from && starts[k - 1] > start) {
                k--;
            }
            // Below the lowest one a division leaves nothing on one side.
            if (k == from || starts[k - 1] == start) {
                return end;
            }
            System.arraycopy(starts, k, starts, k + 1, end - k);
            starts[k] = (int) start;
            return end + 1;
        }

        int find(int call, int[] values) {
            int letter = 0;
            for (int s = 0; s < SUBJECTS; s++) {
                int from = rowFrom[call * SUBJECTS + s];
                int size = rowFrom[call * SUBJECTS + s + 1] - from;
                letter = letter * size + (size == 1 ? 0 : interval(from, size, values[s]));
            }
            return first[call] + letter;
        }

        private int interval(int from, int size, int value) {
            int low = 0;
            int high = size - 1;
            while (low < high) {
                int middle = (low + high + 1) / 2;
                if (starts[from + middle] <= value) {
                    low = middle;
                } else {
                    high = middle - 1;
                }
            }
            return low;
        }

        int callAt(int letter) {
            int call = 0;
            while (call < CALLS - 1 && first[call + 1] <= letter) {
                call++;
            }
            return call;
        }

        int leastAt(int letter, int subject) {
            int call = callAt(letter);
            int rest = letter - first[call];
            for (int s = SUBJECTS - 1; s > subject; s--) {
                rest /= rowSize(call, s);
            }
            return starts[rowFrom[call * SUBJECTS + subject] + rest % rowSize(call, subject)];
        }

        private int rowSize(int call, int subject) {
            int row = call * SUBJECTS + subject;
            return Math.max(1, rowFrom[row + 1] - rowFrom[row]);
        }
    }

    /** Makes the sets of nodes, puts those that are alike together, and numbers the states. */
    private static final class StateMaker {
        private Policy policy;
        private int letters;
        private int groups;
        private final int[] values = new int[SUBJECTS];
        private final int[] nodeTo = new int[MOST_NODES * MOST_LETTERS];
        private final int[] setNodes = new int[MOST_SETS];
        private final int[] setTo = new int[MOST_SETS * MOST_LETTERS];
        private final int[] group = new int[MOST_SETS];
        private final int[] newGroup = new int[MOST_SETS];
        private final int[] groupOfKey = new int[(MOST_SETS + 1) * (MOST_SETS + 1)];
        private final int[] stateOfGroup = new int[MOST_SETS];
        private final int[] setOfState = new int[MOST_SETS];

        StateMaker() {
            Arrays.fill(groupOfKey, NONE);
        }

        /** False if there are too many sets. */
        boolean make(Policy of) {
            policy = of;
            letters = of.letters.count();
            leadNodes();
            if (!makeSets()) {
                return false;
            }
            divideGroups();
            numberStates();
            for (int c = 0; c < CALLS; c++) {
                sumUp(c);
            }
            return true;
        }

        private void leadNodes() {
            for (int a = 0; a < letters; a++) {
                int call = policy.letters.callAt(a);
                for (int s = 0; s < SUBJECTS; s++) {
                    values[s] = policy.letters.leastAt(a, s);
                }
                for (int n = 0; n < policy.nodes; n++) {
                    nodeTo[n * MOST_LETTERS + a] = lead(policy.counters + n, call);
                }
            }
        }

        private int lead(int owner, int call) {
            int nodes = 0;
            for (int q = policy.clauseFrom[owner]; q < policy.clauseFrom[owner + 1]; q++) {
                if (policy.holds(q, call, values)) {
                    nodes |= 1 << policy.clauseTo[q];
                }
            }
            return nodes;
        }

        private boolean makeSets() {
            policy.sets = 1;
            setNodes[0] = 1;
            for (int s = 0; s < policy.sets && s < MOST_SETS; s++) {
                for (int a = 0; a < letters; a++) {
                    int nodes = leadSet(setNodes[s], a);
                    int set = nodes == 0 ? NONE : setIndex(nodes);
                    if (set == MOST_SETS) {
                        return false;
                    }
                    setTo[s * MOST_LETTERS + a] = set;
                }
            }
            return true;
        }

        private int leadSet(int nodes, int letter) {
            int led = 0;
            for (int n = 0; n < policy.nodes; n++) {
                if ((nodes >> n & 1) == 1) {
                    led |= nodeTo[n * MOST_LETTERS + letter];
                }
            }
            return led;
        }

        /** The set's number, a new one if need be; MOST_SETS if there is no room for it. */
        private int setIndex(int nodes) {
            for (int s = 0; s < policy.sets; s++) {
                if (setNodes[s] == nodes) {
                    return s;
                }
            }
            if (policy.sets == MOST_SETS) {
                return MOST_SETS;
            }
            setNodes[policy.sets] = nodes;
            policy.sets++;
            return policy.sets - 1;
        }

        /** From one group on, as long as a letter tells sets of one group apart. */
        private void divideGroups() {
            Arrays.fill(group, 0);
            groups = 1;
            boolean changed = true;
            for (int pass = 0; pass <= MOST_SETS && changed; pass++) {
                changed = false;
                for (int a = 0; a < letters; a++) {
                    if (divideBy(a)) {
                        changed = true;
                    }
                }
            }
        }

        private boolean divideBy(int letter) {
            int count = 0;
            for (int s = 0; s < policy.sets; s++) {
                int key = keyOf(s, letter);
                if (groupOfKey[key] == NONE) {
                    groupOfKey[key] = count;
                    count++;
                }
                newGroup[s] = groupOfKey[key];
            }
            for (int s = 0; s < policy.sets; s++) {
                groupOfKey[keyOf(s, letter)] = NONE;
            }
            boolean changed = count > groups;
            if (changed) {
                System.arraycopy(newGroup, 0, group, 0, policy.sets);
                groups = count;
            }
            return changed;
        }

        private int keyOf(int set, int letter) {
            int target = setTo[set * MOST_LETTERS + letter];
            return group[set] * (MOST_SETS + 1) + (target == NONE ? MOST_SETS : group[target]);
        }

        private void numberStates() {
            Arrays.fill(stateOfGroup, NONE);
            stateOfGroup[group[0]] = 0;
            setOfState[0] = 0;
            policy.states = 1;
            for (int p = 0; p < policy.states && p < MOST_SETS; p++) {
                for (int a = 0; a < letters; a++) {
                    int set = setTo[setOfState[p] * MOST_LETTERS + a];
                    policy.to[p * MOST_LETTERS + a] = set == NONE ? NONE : stateOf(set);
                }
            }
        }

        private int stateOf(int set) {
            int g = group[set];
            if (stateOfGroup[g] == NONE) {
                stateOfGroup[g] = policy.states;
                setOfState[policy.states] = set;
                policy.states++;
            }
            return stateOfGroup[g];
        }

        private void sumUp(int call) {
            long stays = 0;
            for (int p = 0; p < policy.states; p++) {
                long reach = 0;
                boolean same = true;
                for (int a = policy.letters.firstOf(call); a < policy.letters.firstOf(call + 1); a++) {
                    int to = policy.to[p * MOST_LETTERS + a];
                    reach |= to == NONE ? 0 : 1L << to;
                    same = same && to == p;
                }
                policy.reach[call * MOST_SETS + p] = reach;
                stays |= same ? 1L << p : 0;
            }
            policy.stays[call] = stays;
        }
    }

    /** A state and counters that go along with calls outside. */
    private static final class Watch {
        int state;
        final int[] counters = new int[MOST_COUNTERS];
        private final int[] values = new int[SUBJECTS];

        void begin() {
            state = 0;
            Arrays.fill(counters, 0);
        }

        /** False, and nothing changes, if the state goes nowhere. */
        boolean pass(Policy policy, int call, int a, int b, int c) {
            values[0] = a;
            values[1] = b;
            values[2] = c;
            // Rules look at the counters as they are ahead of the call, so on a copy.
            System.arraycopy(counters, 0, values, FIRST_COUNTER, MOST_COUNTERS);
            int next = policy.to[state * MOST_LETTERS + policy.letters.find(call, values)];
            if (next == NONE) {
                return false;
            }
            state = next;
            policy.stepCounters(counters, call, values);
            return true;
        }
    }

    /** A program as read; instruction i of function f is at f * MOST_CODE + i. */
    private static final class Program {
        /** How many bytes stand behind each instruction's byte. */
        static final int[] WIDTH = {
            4, 0, 0, 0, 1, 1, 0, 0, 0, 0, 0, 0, 0, 0, 0, 0, 0, 0, 2, 2, 2, 0, 0, 0, 0, 1, 1, 0, 0, 1
        };
        private static final int ALL_CODE = MOST_FUNCTIONS * MOST_CODE;
        private static final int ALL_HANDLERS = MOST_FUNCTIONS * MOST_HANDLERS;

        int functions;
        final int[] params = new int[MOST_FUNCTIONS];
        final int[] locals = new int[MOST_FUNCTIONS];
        final int[] rowBits = new int[MOST_FUNCTIONS];
        final int[] result = new int[MOST_FUNCTIONS];
        final int[] size = new int[MOST_FUNCTIONS];
        final int[] handlers = new int[MOST_FUNCTIONS];
        final int[] op = new int[ALL_CODE];
        final int[] operand = new int[ALL_CODE];
        final int[] depth = new int[ALL_CODE];
        final int[] types = new int[ALL_CODE];
        /** Whether a jump or a handler goes there. */
        final boolean[] aimed = new boolean[ALL_CODE];
        final long[] may = new long[ALL_CODE];
        /** Whether may is by the policy that there is. */
        boolean mayReady;
        final int[] handlerFrom = new int[ALL_HANDLERS];
        final int[] handlerTo = new int[ALL_HANDLERS];
        final int[] handlerTarget = new int[ALL_HANDLERS];
        final boolean[] handlerAny = new boolean[ALL_HANDLERS];
        final int[] handlerCode = new int[ALL_HANDLERS];

        void empty() {
            functions = 0;
            mayReady = false;
        }

        void setSize(int f, int count) {
            size[f] = count;
            for (int i = 0; i < count; i++) {
                aimed[f * MOST_CODE + i] = false;
            }
        }

        int codeCount() {
            int count = 0;
            for (int f = 0; f < functions; f++) {
                count += size[f];
            }
            return count;
        }

        boolean hasGuard() {
            for (int f = 0; f < functions; f++) {
                for (int i = 0; i < size[f]; i++) {
                    if (op[f * MOST_CODE + i] == GUARD) {
                        return true;
                    }
                }
            }
            return false;
        }

        boolean isGuarded(int f, int i) {
            int at = f * MOST_CODE + i;
            return i > 0 && op[at] == HOST && op[at - 1] == GUARD && operand[at - 1] == operand[at] && !aimed[at];
        }

        boolean isInRange(int handler, int i) {
            return i >= handlerFrom[handler] && i < handlerTo[handler];
        }

        static boolean isJump(int code) {
            return code == JUMP || code == IF || code == IFNOT;
        }

        static boolean goesOnBehind(int code) {
            return code != JUMP && code != RETURN && code != THROW;
        }

        int byteLength() {
            int length = 4;
            for (int f = 0; f < functions; f++) {
                length += 8;
                for (int i = 0; i < size[f]; i++) {
                    length += 1 + WIDTH[op[f * MOST_CODE + i]];
                }
                for (int h = f * MOST_HANDLERS; h < f * MOST_HANDLERS + handlers[f]; h++) {
                    length += handlerAny[h] ? 7 : 11;
                }
            }
            return length;
        }

        /** Writes all, if there is room for it; how many bytes. */
        int write(byte[] into) {
            if (byteLength() > into.length) {
                return 0;
            }
            int at = put(into, 0, 0x47460100 | functions, 4);
            for (int f = 0; f < functions; f++) {
                at = put(into, at, params[f], 1);
                at = put(into, at, locals[f], 1);
                at = put(into, at, rowBits[f], 2);
                at = put(into, at, result[f], 1);
                at = put(into, at, size[f], 2);
                for (int i = f * MOST_CODE; i < f * MOST_CODE + size[f]; i++) {
                    at = put(into, at, op[i], 1);
                    at = put(into, at, operand[i], WIDTH[op[i]]);
                }
                at = put(into, at, handlers[f], 1);
                for (int h = f * MOST_HANDLERS; h < f * MOST_HANDLERS + handlers[f]; h++) {
                    at = writeHandler(into, at, h);
                }
            }
            return at;
        }

        private int writeHandler(byte[] into, int from, int h) {
            int at = put(into, from, handlerFrom[h], 2);
            at = put(into, at, handlerTo[h], 2);
            at = put(into, at, handlerTarget[h], 2);
            at = put(into, at, handlerAny[h] ? 0 : 1, 1);
            return handlerAny[h] ? at : put(into, at, handlerCode[h], 4);
        }

        private static int put(byte[] into, int at, int value, int width) {
            for (int k = 0; k < width; k++) {
                into[at + k] = (byte) (value >> 8 * (width - 1 - k));
            }
            return at + width;
        }
    }

    /** Reads bytes into a program; says faults 1 to 4. */
    private static final class ProgramReader {
        private static final byte[] BEGIN = {71, 70, 1};

        int faultPlace;
        private int fault;
        private byte[] bytes;
        private int count;
        private int at;
        private int taken;
        private Program program;

        int read(byte[] from, int length, Program into) {
            bytes = from;
            count = length;
            fault = 0;
            faultPlace = NONE;
            program = into;
            program.empty();
            if (!readBegin() || !take(1, 1, MOST_FUNCTIONS)) {
                return fault;
            }
            program.functions = taken;
            boolean right = true;
            for (int f = 0; right && f < program.functions; f++) {
                right = readHead(f) && readCode(f) && readHandlers(f);
            }
            if (right && at < count) {
                refuse(4, at);
            }
            return fault;
        }

        private boolean refuse(int code, int place) {
            fault = code;
            faultPlace = place;
            return false;
        }

        private boolean readBegin() {
            for (int k = 0; k < BEGIN.length; k++) {
                if (k >= count) {
                    return refuse(1, count);
                }
                if (bytes[k] != BEGIN[k]) {
                    return refuse(2, k);
                }
            }
            at = BEGIN.length;
            return true;
        }

        /** A number of 1, 2 or 4 bytes; only one of 4 has a sign. */
        private boolean take(int width, int least, int most) {
            if (at + width > count) {
                return refuse(1, count);
            }
            int number = 0;
            for (int k = 0; k < width; k++) {
                number = number << 8 | bytes[at + k] & 255;
            }
            if (number < least || number > most) {
                return refuse(3, at);
            }
            taken = number;
            at += width;
            return true;
        }

        private boolean readHead(int f) {
            if (!take(1, 0, f == 0 ? 0 : 4)) {
                return false;
            }
            program.params[f] = taken;
            if (!take(1, program.params[f], MOST_LOCALS)) {
                return false;
            }
            program.locals[f] = taken;
            if (!take(2, 0, (1 << program.locals[f]) - 1)) {
                return false;
            }
            program.rowBits[f] = taken;
            if (!take(1, 0, f == 0 ? 1 : 2)) {
                return false;
            }
            program.result[f] = taken;
            if (!take(2, 1, MOST_CODE)) {
                return false;
            }
            program.setSize(f, taken);
            return true;
        }

        private boolean readCode(int f) {
            for (int i = f * MOST_CODE; i < f * MOST_CODE + program.size[f]; i++) {
                if (!take(1, 0, GUARD)) {
                    return false;
                }
                int op = taken;
                taken = 0;
                if (Program.WIDTH[op] > 0 && !readOperand(f, op)) {
                    return false;
                }
                program.op[i] = op;
                program.operand[i] = taken;
            }
            return true;
        }

        private boolean readOperand(int f, int op) {
            switch (op) {
                case PUSH:
                    return take(4, Integer.MIN_VALUE, Integer.MAX_VALUE);
                case LOAD:
                case STORE:
                    return take(1, 0, program.locals[f] - 1);
                case CALL:
                    return take(1, 0, program.functions - 1);
                case HOST:
                case GUARD:
                    return take(1, 0, CALLS - 1);
                default:
                    return takeTarget(f);
            }
        }

        private boolean takeTarget(int f) {
            if (!take(2, 0, program.size[f] - 1)) {
                return false;
            }
            program.aimed[f * MOST_CODE + taken] = true;
            return true;
        }

        private boolean readHandlers(int f) {
            if (!take(1, 0, MOST_HANDLERS)) {
                return false;
            }
            program.handlers[f] = taken;
            for (int n = 0; n < program.handlers[f]; n++) {
                if (!readHandler(f, f * MOST_HANDLERS + n)) {
                    return false;
                }
            }
            return true;
        }

        private boolean readHandler(int f, int h) {
            if (!take(2, 0, program.size[f] - 1)) {
                return false;
            }
            program.handlerFrom[h] = taken;
            if (!take(2, taken + 1, program.size[f])) {
                return false;
            }
            program.handlerTo[h] = taken;
            if (!takeTarget(f)) {
                return false;
            }
            program.handlerTarget[h] = taken;
            if (!take(1, 0, 1)) {
                return false;
            }
            program.handlerAny[h] = taken == 0;
            program.handlerCode[h] = 0;
            if (program.handlerAny[h]) {
                return true;
            }
            if (!take(4, Integer.MIN_VALUE, Integer.MAX_VALUE)) {
                return false;
            }
            program.handlerCode[h] = taken;
            return true;
        }
    }

    /** Finds what is on the stack ahead of each instruction; says faults 5 to 8. */
    private static final class Verifier {
        int faultPlace;
        private int fault;
        private Program program;
        private int function;
        private int depth;
        private int types;
        private int least;
        private final boolean[] waits = new boolean[MOST_CODE];

        int verify(Program of) {
            program = of;
            fault = 0;
            faultPlace = NONE;
            Arrays.fill(of.depth, NONE);
            Arrays.fill(of.types, 0);
            for (int f = 0; f < of.functions && fault == 0; f++) {
                function = f;
                verifyFunction();
            }
            return fault;
        }

        private boolean refuse(int code, int i) {
            fault = code;
            faultPlace = 512 * function + i;
            return false;
        }

        /** Each instruction waits once at most, so as many rounds as there are do. */
        private void verifyFunction() {
            int size = program.size[function];
            for (int i = 0; i < size; i++) {
                waits[i] = false;
            }
            least = 0;
            comeTo(0, 0, 0);
            boolean right = true;
            for (int n = 0; n < size && right; n++) {
                while (least < size && !waits[least]) {
                    least++;
                }
                if (least == size) {
                    return;
                }
                waits[least] = false;
                right = look(least);
            }
        }

        private boolean comeTo(int i, int withDepth, int withTypes) {
            int at = function * MOST_CODE + i;
            if (program.depth[at] == NONE) {
                program.depth[at] = withDepth;
                program.types[at] = withTypes;
                waits[i] = true;
                least = Math.min(least, i);
                return true;
            }
            return program.depth[at] == withDepth && program.types[at] == withTypes || refuse(7, i);
        }

        private boolean look(int i) {
            int at = function * MOST_CODE + i;
            int op = program.op[at];
            depth = program.depth[at];
            types = program.types[at];
            if (!change(op, program.operand[at])) {
                return refuse(5, i);
            }
            if (depth > MOST_STACK) {
                return refuse(6, i);
            }
            for (int n = 0; n < program.handlers[function]; n++) {
                int h = function * MOST_HANDLERS + n;
                if (program.isInRange(h, i) && !comeTo(program.handlerTarget[h], 1, 0)) {
                    return false;
                }
            }
            if (Program.isJump(op) && !comeTo(program.operand[at], depth, types)) {
                return false;
            }
            if (!Program.goesOnBehind(op)) {
                return true;
            }
            return i + 1 < program.size[function] ? comeTo(i + 1, depth, types) : refuse(8, i);
        }

        /** What an instruction takes and puts; false if it can't take it. */
        private boolean change(int op, int operand) {
            switch (op) {
                case PUSH:
                    return put(0);
                case POP:
                    return depth > 0 && take(type(1));
                case DUP:
                    return depth > 0 && put(type(1));
                case SWAP:
                    return swap();
                case LOAD:
                    return put(program.rowBits[function] >> operand & 1);
                case STORE:
                    return take(program.rowBits[function] >> operand & 1);
                case JUMP:
                    return true;
                case IF:
                case IFNOT:
                case THROW:
                    return take(0);
                case NEW:
                    return take(0) && put(1);
                case GET:
                    return take(0) && take(1) && put(0);
                case PUT:
                    return take(0) && take(0) && take(1);
                case SIZE:
                    return take(1) && put(0);
                case CALL:
                    return call(operand);
                case HOST:
                    return hasInts(operand % 4) && takeInts(operand % 4) && put(0);
                case RETURN:
                    return program.result[function] == 0 || take(program.result[function] - 1);
                case GUARD:
                    return hasInts(operand % 4);
                default:
                    return take(0) && take(0) && put(0);
            }
        }

        /** 1 for a row, 0 for an int: the n-th from above, from 1 on. */
        private int type(int n) {
            return types >> depth - n & 1;
        }

        private boolean put(int type) {
            types |= type << depth;
            depth++;
            return true;
        }

        private boolean take(int type) {
            if (depth == 0 || type(1) != type) {
                return false;
            }
            depth--;
            types &= (1 << depth) - 1;
            return true;
        }

        private boolean swap() {
            if (depth < 2) {
                return false;
            }
            int upper = type(1);
            int lower = type(2);
            return take(upper) && take(lower) && put(upper) && put(lower);
        }

        private boolean hasInts(int n) {
            return depth >= n && types >> depth - n == 0;
        }

        private boolean takeInts(int n) {
            depth -= n;
            return true;
        }

        private boolean call(int f) {
            for (int n = program.params[f] - 1; n >= 0; n--) {
                if (!take(program.rowBits[f] >> n & 1)) {
                    return false;
                }
            }
            return program.result[f] == 0 || put(program.result[f] - 1);
        }
    }

    /** Which states a program may be in at each instruction, and what follows for guards. */
    private static final class Flow {
        /** Far above what can happen: sets grow at most 63 times each. */
        private static final int MOST_ROUNDS = 2000000;

        private Program program;
        private Policy policy;
        private final int[] queue = new int[Program.ALL_CODE];
        private final boolean[] queued = new boolean[Program.ALL_CODE];
        private int head;
        private int waiting;
        private final long[] exit = new long[MOST_FUNCTIONS];
        private final long[] all = new long[MOST_FUNCTIONS];
        private final int[] callSites = new int[Program.ALL_CODE];
        private int callCount;
        private final int[] moved = new int[MOST_CODE + 1];

        void settle(Program of, Policy by) {
            if (of.mayReady) {
                return;
            }
            program = of;
            policy = by;
            begin();
            for (int n = 0; n < MOST_ROUNDS && waiting > 0; n++) {
                int at = queue[head];
                head = (head + 1) % queue.length;
                waiting--;
                queued[at] = false;
                spread(at / MOST_CODE, at % MOST_CODE);
            }
            of.mayReady = true;
        }

        private void begin() {
            Arrays.fill(program.may, 0);
            Arrays.fill(exit, 0);
            Arrays.fill(all, 0);
            head = 0;
            waiting = 0;
            callCount = 0;
            for (int f = 0; f < program.functions; f++) {
                for (int i = f * MOST_CODE; i < f * MOST_CODE + program.size[f]; i++) {
                    queued[i] = false;
                    if (program.op[i] == CALL) {
                        callSites[callCount] = i;
                        callCount++;
                    }
                }
            }
            grow(0, 1);
        }

        private void enqueue(int at) {
            if (!queued[at]) {
                queued[at] = true;
                queue[(head + waiting) % queue.length] = at;
                waiting++;
            }
        }

        private void grow(int at, long states) {
            if ((states & ~program.may[at]) != 0) {
                program.may[at] |= states;
                enqueue(at);
            }
        }

        /** Calls of a function are looked at anew when what comes out of it has grown. */
        private void enqueueCalls(int f) {
            for (int n = 0; n < callCount; n++) {
                int at = callSites[n];
                if (program.operand[at] == f && program.may[at] != 0) {
                    enqueue(at);
                }
            }
        }

        private void growExit(int f, long states) {
            if ((states & ~exit[f]) != 0) {
                exit[f] |= states;
                enqueueCalls(f);
            }
        }

        private void growAll(int f, long states) {
            if ((states & ~all[f]) != 0) {
                all[f] |= states;
                enqueueCalls(f);
            }
        }

        private void spread(int f, int i) {
            int at = f * MOST_CODE + i;
            int op = program.op[at];
            int operand = program.operand[at];
            long may = program.may[at];
            long thrown = may;
            long after = may;
            growAll(f, may);
            if (op == CALL) {
                grow(operand * MOST_CODE, may);
                growAll(f, all[operand]);
                after = exit[operand];
                thrown |= all[operand];
            } else if (op == RETURN) {
                growExit(f, may);
            } else if (op == GUARD || op == HOST && !program.isGuarded(f, i)) {
                after = led(may, operand);
            }
            if (canThrow(op)) {
                growHandlers(f, i, thrown);
            }
            if (Program.isJump(op)) {
                grow(f * MOST_CODE + operand, after);
            }
            if (Program.goesOnBehind(op)) {
                grow(at + 1, after);
            }
        }

        private static boolean canThrow(int op) {
            return op == DIV || op == REM || op == NEW || op == GET || op == PUT || op == CALL || op == THROW;
        }

        private long led(long states, int call) {
            long led = 0;
            for (int p = 0; p < policy.states; p++) {
                if ((states >> p & 1) == 1) {
                    led |= policy.reach[call * MOST_SETS + p];
                }
            }
            return led;
        }

        private void growHandlers(int f, int i, long states) {
            for (int h = f * MOST_HANDLERS; h < f * MOST_HANDLERS + program.handlers[f]; h++) {
                if (program.isInRange(h, i)) {
                    grow(f * MOST_CODE + program.handlerTarget[h], states);
                }
            }
        }

        /** Whether what is there is a HOST that needs a guard; of a settled program. */
        boolean needs(Program of, Policy by, int at) {
            if (of.op[at] != HOST) {
                return false;
            }
            int call = of.operand[at];
            return (by.ruledCalls >> call & 1) == 1 || (of.may[at] & ~by.stays[call]) != 0;
        }

        /** Whether an instruction of a settled program is none that keeps it from being certified. */
        boolean passes(Program of, Policy by, int f, int i) {
            int at = f * MOST_CODE + i;
            if (of.op[at] == GUARD) {
                return i + 1 < of.size[f] && of.isGuarded(f, i + 1);
            }
            return !needs(of, by, at) || of.isGuarded(f, i);
        }

        /** How many guards were put in; -2 if there is no room for them. */
        int forge(Program from, Policy by, Program into) {
            into.empty();
            into.functions = from.functions;
            int guards = 0;
            for (int f = 0; f < from.functions; f++) {
                int more = move(from, by, f);
                guards += more;
                if (from.size[f] + more > MOST_CODE) {
                    return -2;
                }
                copyHead(from, into, f);
                copyCode(from, into, f);
                copyHandlers(from, into, f);
            }
            return into.byteLength() > MOST_BYTES ? -2 : guards;
        }

        /** Where each instruction goes, with its guard, if it gets one; how many get one. */
        private int move(Program from, Policy by, int f) {
            int guards = 0;
            for (int i = 0; i < from.size[f]; i++) {
                moved[i] = i + guards;
                guards += needs(from, by, f * MOST_CODE + i) ? 1 : 0;
            }
            moved[from.size[f]] = from.size[f] + guards;
            return guards;
        }

        private void copyHead(Program from, Program into, int f) {
            into.params[f] = from.params[f];
            into.locals[f] = from.locals[f];
            into.rowBits[f] = from.rowBits[f];
            into.result[f] = from.result[f];
            into.setSize(f, moved[from.size[f]]);
            into.handlers[f] = from.handlers[f];
        }

        private void copyCode(Program from, Program into, int f) {
            int base = f * MOST_CODE;
            for (int i = 0; i < from.size[f]; i++) {
                int op = from.op[base + i];
                int operand = from.operand[base + i];
                int at = base + moved[i + 1] - 1;
                if (moved[i + 1] - moved[i] == 2) {
                    into.op[at - 1] = GUARD;
                    into.operand[at - 1] = operand;
                }
                into.op[at] = op;
                into.operand[at] = operand;
                if (Program.isJump(op)) {
                    into.operand[at] = moved[operand];
                    into.aimed[base + moved[operand]] = true;
                }
            }
        }

        private void copyHandlers(Program from, Program into, int f) {
            for (int h = f * MOST_HANDLERS; h < f * MOST_HANDLERS + from.handlers[f]; h++) {
                into.handlerFrom[h] = moved[from.handlerFrom[h]];
                into.handlerTo[h] = moved[from.handlerTo[h]];
                into.handlerTarget[h] = moved[from.handlerTarget[h]];
                into.handlerAny[h] = from.handlerAny[h];
                into.handlerCode[h] = from.handlerCode[h];
                into.aimed[f * MOST_CODE + into.handlerTarget[h]] = true;
            }
        }
    }

    /** Runs verified programs, and keeps the latest run. */
    private static final class Machine {
        static final int MOST_FUEL = 20000;

        static final int ENDED = 0;
        static final int VALUE = 1;
        static final int STEPS = 2;
        static final int OUTSIDE = 3;
        static final int PASSED = 4;
        static final int STATE = 5;
        static final int INTS = 6;
        static final int DEEPEST = 7;
        static final int FIGURES = 8;

        private static final int MOST_ANSWERS = 256;
        private static final int MOST_KEPT = 256;
        private static final int KEPT = 5;
        private static final int MOST_FRAMES = 40;
        private static final int MOST_ROW = 256;
        private static final int MOST_INTS = 4096;
        /** Guards are no steps, but behind at most MOST_CODE of them there is a step, or the end. */
        private static final int MOST_ROUNDS = (MOST_FUEL + 1) * (MOST_CODE + 1);
        /** A row on the stack is where its ints are, and, in the lowest bits, how many. */
        private static final int ROW_BITS = 9;
        private static final int ROW_MASK = (1 << ROW_BITS) - 1;

        final int[] figures = new int[FIGURES];
        final Watch watch = new Watch();
        int answerCount;
        private final int[] answers = new int[MOST_ANSWERS];
        private final int[] trace = new int[MOST_KEPT * KEPT];
        private final int[] ints = new int[MOST_INTS];
        private final int[] stack = new int[MOST_FRAMES * MOST_STACK];
        private final int[] local = new int[MOST_FRAMES * MOST_LOCALS];
        private final int[] frameFunction = new int[MOST_FRAMES];
        private final int[] framePlace = new int[MOST_FRAMES];
        private final int[] frameTop = new int[MOST_FRAMES];
        private Program program;
        private Policy policy;
        private int fuel;
        private int frame;
        private int function;
        private int place;
        private int top;

        Machine() {
            figures[ENDED] = NONE;
        }

        void forget() {
            figures[ENDED] = NONE;
        }

        boolean hasRun() {
            return figures[ENDED] != NONE;
        }

        int takeAnswer(int v) {
            if (answerCount == MOST_ANSWERS) {
                return NONE;
            }
            answers[answerCount] = v;
            answerCount++;
            return answerCount;
        }

        int traced(int i, int what) {
            boolean kept = i >= 0 && i < MOST_KEPT && i < figures[OUTSIDE];
            return kept && what >= 0 && what < KEPT ? trace[i * KEPT + what] : 0;
        }

        void run(Program of, Policy by, int withFuel) {
            program = of;
            policy = by;
            fuel = withFuel;
            Arrays.fill(figures, 0);
            figures[ENDED] = NONE;
            watch.begin();
            frame = NONE;
            top = 0;
            enter(0);
            for (int n = 0; n < MOST_ROUNDS && figures[ENDED] == NONE; n++) {
                step();
            }
            figures[STATE] = watch.state;
        }

        private void end(int how, int value) {
            figures[ENDED] = how;
            figures[VALUE] = value;
        }

        private void push(int value) {
            stack[top] = value;
            top++;
        }

        private int pop() {
            top--;
            return stack[top];
        }

        private void step() {
            if (figures[STEPS] == fuel) {
                end(3, 0);
                return;
            }
            int at = function * MOST_CODE + place;
            int op = program.op[at];
            int operand = program.operand[at];
            place++;
            if (op == GUARD) {
                guard(operand);
                return;
            }
            figures[STEPS]++;
            if (op <= STORE) {
                doMove(op, operand);
            } else if (op <= SAME) {
                doInts(op);
            } else if (op <= IFNOT) {
                doJump(op, operand);
            } else if (op <= SIZE) {
                doRow(op);
            } else {
                doOther(op, operand);
            }
        }

        private void doMove(int op, int operand) {
            switch (op) {
                case PUSH:
                    push(operand);
                    break;
                case POP:
                    pop();
                    break;
                case DUP:
                    push(stack[top - 1]);
                    break;
                case SWAP:
                    int upper = pop();
                    int lower = pop();
                    push(upper);
                    push(lower);
                    break;
                case LOAD:
                    push(local[frame * MOST_LOCALS + operand]);
                    break;
                default:
                    local[frame * MOST_LOCALS + operand] = pop();
                    break;
            }
        }

        private void doInts(int op) {
            int b = pop();
            int a = pop();
            if ((op == DIV || op == REM) && b == 0) {
                throwCode(1);
            } else {
                push(reckon(op, a, b));
            }
        }

        private static int reckon(int op, int a, int b) {
            switch (op) {
                case ADD:
                    return a + b;
                case SUB:
                    return a - b;
                case MUL:
                    return a * b;
                case DIV:
                    return b == 0 ? 0 : a / b;
                case REM:
                    return b == 0 ? 0 : a % b;
                case AND:
                    return a & b;
                case OR:
                    return a | b;
                case XOR:
                    return a ^ b;
                case SHL:
                    return a << (b & 31);
                case SHR:
                    return a >> (b & 31);
                case LESS:
                    return a < b ? 1 : 0;
                default:
                    return a == b ? 1 : 0;
            }
        }

        private void doJump(int op, int target) {
            if (op == JUMP || pop() != 0 == (op == IF)) {
                place = target;
            }
        }

        private void doRow(int op) {
            if (op == NEW) {
                makeRow(pop());
            } else if (op == SIZE) {
                push(pop() & ROW_MASK);
            } else {
                int value = op == PUT ? pop() : 0;
                int index = pop();
                int row = pop();
                if (index < 0 || index >= (row & ROW_MASK)) {
                    throwCode(2);
                } else if (op == PUT) {
                    ints[(row >> ROW_BITS) + index] = value;
                } else {
                    push(ints[(row >> ROW_BITS) + index]);
                }
            }
        }

        private void makeRow(int size) {
            int from = figures[INTS];
            if (size < 0 || size > MOST_ROW || size > MOST_INTS - from) {
                throwCode(3);
                return;
            }
            for (int k = from; k < from + size; k++) {
                ints[k] = 0;
            }
            figures[INTS] = from + size;
            push(from << ROW_BITS | size);
        }

        private void doOther(int op, int operand) {
            if (op == CALL) {
                if (frame + 1 == MOST_FRAMES) {
                    throwCode(4);
                } else {
                    enter(operand);
                }
            } else if (op == HOST) {
                callOutside(operand);
            } else if (op == RETURN) {
                leave();
            } else {
                throwCode(pop());
            }
        }

        private void enter(int f) {
            int count = program.params[f];
            if (frame >= 0) {
                top -= count;
                framePlace[frame] = place;
                frameTop[frame] = top;
            }
            frame++;
            frameFunction[frame] = f;
            for (int k = 0; k < MOST_LOCALS; k++) {
                local[frame * MOST_LOCALS + k] = k < count ? stack[top + k] : 0;
            }
            function = f;
            place = 0;
            top = frame * MOST_STACK;
            figures[DEEPEST] = Math.max(figures[DEEPEST], frame + 1);
        }

        private void backToCaller() {
            frame--;
            function = frameFunction[frame];
            place = framePlace[frame];
            top = frameTop[frame];
        }

        private void leave() {
            boolean hasResult = program.result[function] != 0;
            int value = hasResult ? pop() : 0;
            if (frame == 0) {
                end(0, value);
                return;
            }
            backToCaller();
            if (hasResult) {
                push(value);
            }
        }

        /** In every frame the place is already one behind the instruction that throws. */
        private void throwCode(int code) {
            for (int n = 0; n < MOST_FRAMES; n++) {
                int h = handlerFor(place - 1, code);
                if (h != NONE) {
                    top = frame * MOST_STACK;
                    push(code);
                    place = program.handlerTarget[h];
                    return;
                }
                if (frame == 0) {
                    end(1, code);
                    return;
                }
                backToCaller();
            }
        }

        private int handlerFor(int i, int code) {
            int from = function * MOST_HANDLERS;
            for (int h = from; h < from + program.handlers[function]; h++) {
                if (program.isInRange(h, i) && (program.handlerAny[h] || program.handlerCode[h] == code)) {
                    return h;
                }
            }
            return NONE;
        }

        /** Argument n of a call whose arguments are the upper ones; 0 if it has none such. */
        private int argument(int call, int n) {
            return n < call % 4 ? stack[top - call % 4 + n] : 0;
        }

        private void guard(int call) {
            if (watch.pass(policy, call, argument(call, 0), argument(call, 1), argument(call, 2))) {
                figures[PASSED]++;
            } else {
                end(2, 0);
            }
        }

        private void callOutside(int call) {
            int n = figures[OUTSIDE];
            int answer = n < answerCount ? answers[n] : 0;
            if (n < MOST_KEPT) {
                trace[n * KEPT] = call;
                for (int k = 0; k < 3; k++) {
                    trace[n * KEPT + 1 + k] = argument(call, k);
                }
                trace[n * KEPT + 4] = answer;
            }
            figures[OUTSIDE]++;
            top -= call % 4;
            push(answer);
        }
    }
}
