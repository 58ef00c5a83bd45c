import java.util.Arrays;
import java.util.NoSuchElementException;

/**
 * A desk on which patches of sound modules are written as text, made into a program of steps, and
 * played by voices, sample by sample, in exact whole numbers.
 *
 * <p>Every row is made in a constructor and used again: no call makes an object but for what it
 * throws.
 */
public final class PatchVoices {
    public static final int NONE = -1;

    private static final int MOST_CHARACTERS = 300;
    private static final int LEAST_CHARACTER = 32;
    private static final int GREATEST_CHARACTER = 126;
    private static final int MOST_BYTES = 8;
    private static final int MOST_VOICES = 4;
    private static final int MOST_STRENGTH = 127;
    private static final int MOST_SAMPLES = 64;
    private static final int KNOBS = 4;
    private static final int LEAST_OUT = -32768;
    private static final int GREATEST_OUT = 32767;

    private final char[] text = new char[MOST_CHARACTERS];
    private int length;

    private final Reader reader = new Reader();
    private final Program program = new Program();
    private boolean optimising;
    private int faulty = NONE;

    private final Voice[] desk = new Voice[MOST_VOICES];
    private int voiceCount = 1;
    private long takings;

    private final int[] knobs = new int[KNOBS];
    private final int[] samples = new int[MOST_SAMPLES];
    private int sampleCount;

    public PatchVoices() {
        for (int v = 0; v < MOST_VOICES; v++) {
            desk[v] = new Voice();
        }
    }

    public int type(long characters, int n) {
        if (n < 1 || n > MOST_BYTES || length + n > MOST_CHARACTERS) {
            return NONE;
        }
        for (int i = 0; i < n; i++) {
            int character = byteOf(characters, i);
            if (character < LEAST_CHARACTER || character > GREATEST_CHARACTER) {
                return NONE;
            }
        }
        for (int i = n - 1; i >= 0; i--) {
            text[length] = (char) byteOf(characters, i);
            length++;
        }
        return length;
    }

    private static int byteOf(long characters, int i) {
        return (int) (characters >>> (8 * i)) & 0xFF;
    }

    public int erase() {
        int had = length;
        length = 0;
        return had;
    }

    public int compile() {
        faulty = NONE;
        int place = reader.read(text, length);
        if (place != NONE) {
            return -1 - place;
        }
        Patch patch = reader.patch;
        patch.tieCords();
        int fault = patch.firstFault();
        if (fault != Patch.NO_FAULT) {
            faulty = patch.leastWith(fault);
            return fault;
        }
        program.make(patch, optimising);
        fallSilent();
        return 0;
    }

    public int named() {
        return faulty;
    }

    public void optimise(boolean on) {
        optimising = on;
    }

    public int steps() {
        return program.stepCount;
    }

    public int step(int i, int what) throws IndexOutOfBoundsException, IllegalArgumentException {
        if (i < 0 || i >= program.stepCount) {
            throw new IndexOutOfBoundsException("there is no such step");
        }
        if (what < 0 || what > Program.LAST_WHAT) {
            throw new IllegalArgumentException("what is not 0 .. 10");
        }
        return program.tell(i, what);
    }

    public int slots() {
        return program.slotCount;
    }

    public void voices(int n) throws IllegalArgumentException {
        if (n < 1 || n > MOST_VOICES) {
            throw new IllegalArgumentException("the voices are not 1 .. 4");
        }
        voiceCount = n;
        fallSilent();
    }

    public int note(int pitch, int strength) throws IllegalArgumentException {
        if (strength < 1 || strength > MOST_STRENGTH) {
            throw new IllegalArgumentException("the strength is not 1 .. 127");
        }
        int voice = voiceToTake();
        desk[voice].take(program, pitch, strength, takings);
        takings++;
        return voice;
    }

    private int voiceToTake() {
        for (int v = 0; v < voiceCount; v++) {
            if (!desk[v].taken) {
                return v;
            }
        }
        int quietest = longestQuiet();
        return quietest == NONE ? longestTaken() : quietest;
    }

    private int longestQuiet() {
        int longest = NONE;
        for (int v = 0; v < voiceCount; v++) {
            if (!desk[v].sounding && (longest == NONE || desk[v].quiet > desk[longest].quiet)) {
                longest = v;
            }
        }
        return longest;
    }

    private int longestTaken() {
        int longest = 0;
        for (int v = 1; v < voiceCount; v++) {
            if (desk[v].taking < desk[longest].taking) {
                longest = v;
            }
        }
        return longest;
    }

    public void off(int voice) throws IndexOutOfBoundsException, IllegalStateException {
        if (isNoVoice(voice)) {
            throw new IndexOutOfBoundsException("there is no such voice");
        }
        if (!desk[voice].gate) {
            throw new IllegalStateException("its gate is not on");
        }
        desk[voice].gate = false;
    }

    public boolean active(int voice) throws IndexOutOfBoundsException {
        if (isNoVoice(voice)) {
            throw new IndexOutOfBoundsException("there is no such voice");
        }
        return desk[voice].sounding;
    }

    private boolean isNoVoice(int voice) {
        return voice < 0 || voice >= voiceCount;
    }

    public void knob(int k, int v) throws IndexOutOfBoundsException {
        if (k < 0 || k >= KNOBS) {
            throw new IndexOutOfBoundsException("there is no such knob");
        }
        knobs[k] = v;
    }

    public void run(int n) throws IllegalArgumentException, IllegalStateException {
        if (n < 0 || n > MOST_SAMPLES) {
            throw new IllegalArgumentException("the samples are not 0 .. 64");
        }
        if (program.isNone()) {
            throw new IllegalStateException("there is no program");
        }
        for (int i = 0; i < n; i++) {
            samples[i] = nextSample();
        }
        sampleCount = n;
    }

    private int nextSample() {
        long sum = 0;
        for (int v = 0; v < voiceCount; v++) {
            if (desk[v].taken) {
                sum += desk[v].play(program, knobs);
            }
        }
        return (int) Math.max(LEAST_OUT, Math.min(GREATEST_OUT, sum));
    }

    public int out(int i) throws IndexOutOfBoundsException {
        if (i < 0 || i >= sampleCount) {
            throw new IndexOutOfBoundsException("there is no such sample");
        }
        return samples[i];
    }

    public int tap(int voice, int module)
            throws IndexOutOfBoundsException, NoSuchElementException {
        if (isNoVoice(voice)) {
            throw new IndexOutOfBoundsException("there is no such voice");
        }
        if (module < 0 || module >= program.wiring.modules) {
            throw new IndexOutOfBoundsException("there is no such module");
        }
        if (!program.wiring.kept[module] || !desk[voice].played) {
            throw new NoSuchElementException("the module has no value there");
        }
        return desk[voice].values[module];
    }

    public void reset() {
        fallSilent();
    }

    private void fallSilent() {
        for (int v = 0; v < MOST_VOICES; v++) {
            desk[v].release();
        }
        sampleCount = 0;
    }

    /** The kinds of modules: their numbers, words, inputs, and the values that need no voice. */
    private static final class Kinds {
        static final int ADD = 0;
        static final int SUB = 1;
        static final int MUL = 2;
        static final int MIX = 3;
        static final int LIM = 4;
        static final int CMP = 5;
        static final int SEL = 6;
        static final int KNO = 7;
        static final int PIT = 8;
        static final int GAT = 9;
        static final int VEL = 10;
        static final int SAW = 11;
        static final int SQR = 12;
        static final int TRI = 13;
        static final int BOW = 14;
        static final int NOI = 15;
        static final int ENV = 16;
        static final int LOW = 17;
        static final int DEL = 18;
        static final int HLD = 19;
        static final int PUT = 20;

        /** A bit for each kind. */
        static final int ALL = 0xFFFFF;

        static final int MOST_INPUTS = 4;
        static final int WORD_LETTERS = 3;
        static final int ONE = 65536;

        private static final int LEAST_VALUE = 0x80000000;
        private static final int GREATEST_VALUE = 0x7FFFFFFF;
        private static final int COUNT = 20;
        private static final String WORDS =
                "addsubmulmixlimcmpselknopitgatvelsawsqrtribownoienvlowdelhld";
        private static final int[] INPUTS = {
            2, 2, 2, 3, 3, 2, 3, 1, 0, 0, 0, 1, 1, 1, 1, 0, 4, 3, 2, 2
        };

        private Kinds() {}

        static int inputsOf(int kind) {
            return INPUTS[kind];
        }

        /** A bit for each kind whose word has this letter at this place. */
        static int withLetter(int place, char letter) {
            int kinds = 0;
            for (int kind = 0; kind < COUNT; kind++) {
                if (WORDS.charAt(WORD_LETTERS * kind + place) == letter) {
                    kinds |= 1 << kind;
                }
            }
            return kinds;
        }

        /** Kinds below KNO depend on their inputs alone, so the optimiser may work them out. */
        static boolean isPlain(int kind) {
            return kind < KNO;
        }

        static boolean hasMemory(int kind) {
            return kind >= SAW;
        }

        static boolean inputsMaySwap(int kind) {
            return kind == ADD || kind == MUL;
        }

        static int plainValue(int kind, int x, int y, int z) {
            switch (kind) {
                case ADD:
                    return stopped((long) x + y);
                case SUB:
                    return stopped((long) x - y);
                case MUL:
                    return stopped(scaled(x, y));
                case MIX:
                    return stopped(x + scaled((long) y - x, z));
                case LIM:
                    return x < y ? y : x > z ? z : x;
                case CMP:
                    return x > y ? ONE : 0;
                default:
                    return x > 0 ? y : z;
            }
        }

        /** Even a difference of two ints times an int stays within a long. */
        static long scaled(long x, int y) {
            return x * y >> 16;
        }

        static int stopped(long exact) {
            return (int) Math.max(LEAST_VALUE, Math.min(GREATEST_VALUE, exact));
        }

        static int waveValue(int kind, int phase) {
            int p = phase >> 16;
            switch (kind) {
                case SAW:
                    return p;
                case SQR:
                    return p >= 0 ? 32767 : -32767;
                case TRI:
                    return 32768 - 2 * Math.abs(p);
                default:
                    return p * (32768 - Math.abs(p)) / 8192;
            }
        }
    }

    /** The modules as they are written, and the faults 1 to 5 that they may have. */
    private static final class Patch {
        static final int NO_FAULT = 0;
        static final int MOST_MODULES = 24;
        static final int MOST_DELAY = 64;
        static final int MOST_DELAYS = 128;

        private static final int LOOP = 1;
        private static final int LOOSE_CORD = 2;
        private static final int NAME_AGAIN = 3;
        private static final int WRONG_INPUTS = 4;
        private static final int TOO_MUCH = 5;
        private static final int[] FAULTS_IN_TURN = {3, 2, 4, 5, 1};

        /** A statement has eight characters or more, so 300 begin at most 38 of them. */
        private static final int MOST_WRITTEN = 38;

        /** What a number has for the name of its cord. */
        private static final int NO_NAME = 0;

        int modules;
        final int[] kind = new int[MOST_WRITTEN];
        /** Of input j of module m, at 4 * m + j: the module that its cord comes from, or NONE. */
        final int[] from = new int[MOST_WRITTEN * Kinds.MOST_INPUTS];
        final int[] number = new int[MOST_WRITTEN * Kinds.MOST_INPUTS];

        private final int[] name = new int[MOST_WRITTEN];
        private final int[] inputs = new int[MOST_WRITTEN];
        private final int[] cord = new int[MOST_WRITTEN * Kinds.MOST_INPUTS];
        /** Of each module, a bit for each one from which cords, none into a del, lead to it. */
        private final long[] behind = new long[MOST_WRITTEN];

        void clear() {
            modules = 0;
            Arrays.fill(name, NO_NAME);
            Arrays.fill(kind, 0);
            Arrays.fill(inputs, 0);
            Arrays.fill(cord, NO_NAME);
            Arrays.fill(number, 0);
        }

        void addModule() {
            modules++;
        }

        void addToName(char letter) {
            name[modules - 1] = longerName(name[modules - 1], letter);
        }

        void setKind(int newKind) {
            kind[modules - 1] = newKind;
        }

        boolean hasRoomForInput() {
            return inputs[modules - 1] < Kinds.MOST_INPUTS;
        }

        void addInput() {
            inputs[modules - 1]++;
        }

        void addToCord(char letter) {
            int i = latestInput();
            cord[i] = longerName(cord[i], letter);
        }

        void addToNumber(int signedDigit) {
            int i = latestInput();
            number[i] = 10 * number[i] + signedDigit;
        }

        private int latestInput() {
            return Kinds.MOST_INPUTS * (modules - 1) + inputs[modules - 1] - 1;
        }

        /** Four letters of a name fill an int, a byte each. */
        private static int longerName(int start, char letter) {
            return start << 8 | letter;
        }

        void tieCords() {
            for (int i = 0; i < Kinds.MOST_INPUTS * modules; i++) {
                from[i] = cord[i] == NO_NAME ? NONE : moduleNamed(cord[i]);
            }
            followCords();
        }

        private int moduleNamed(int wanted) {
            for (int m = 0; m < modules; m++) {
                if (name[m] == wanted) {
                    return m;
                }
            }
            return NONE;
        }

        private void followCords() {
            for (int m = 0; m < modules; m++) {
                behind[m] = 0;
                for (int j = 0; j < inputs[m] && kind[m] != Kinds.DEL; j++) {
                    int source = from[Kinds.MOST_INPUTS * m + j];
                    behind[m] |= source == NONE ? 0 : 1L << source;
                }
            }
            for (int through = 0; through < modules; through++) {
                for (int m = 0; m < modules; m++) {
                    if (isBehind(through, m)) {
                        behind[m] |= behind[through];
                    }
                }
            }
        }

        private boolean isBehind(int source, int m) {
            return (behind[m] >> source & 1) != 0;
        }

        int firstFault() {
            for (int i = 0; i < FAULTS_IN_TURN.length; i++) {
                if (leastWith(FAULTS_IN_TURN[i]) != NONE) {
                    return FAULTS_IN_TURN[i];
                }
            }
            return NO_FAULT;
        }

        int leastWith(int fault) {
            for (int m = 0; m < modules; m++) {
                if (has(fault, m)) {
                    return m;
                }
            }
            return NONE;
        }

        private boolean has(int fault, int m) {
            switch (fault) {
                case NAME_AGAIN:
                    return moduleNamed(name[m]) < m;
                case LOOSE_CORD:
                    return hasLooseCord(m);
                case WRONG_INPUTS:
                    return hasWrongInputs(m);
                case TOO_MUCH:
                    return m >= MOST_MODULES || delaysUpTo(m) > MOST_DELAYS;
                case LOOP:
                    return isBehind(m, m);
                default:
                    return false;
            }
        }

        private boolean hasLooseCord(int m) {
            for (int j = 0; j < inputs[m]; j++) {
                int i = Kinds.MOST_INPUTS * m + j;
                if (cord[i] != NO_NAME && from[i] == NONE) {
                    return true;
                }
            }
            return false;
        }

        private boolean hasWrongInputs(int m) {
            if (inputs[m] != Kinds.inputsOf(kind[m])) {
                return true;
            }
            int first = Kinds.MOST_INPUTS * m;
            switch (kind[m]) {
                case Kinds.DEL:
                    return !isNumberWithin(first + 1, 1, MOST_DELAY);
                case Kinds.KNO:
                    return !isNumberWithin(first, 0, KNOBS - 1);
                default:
                    return false;
            }
        }

        private boolean isNumberWithin(int i, int least, int greatest) {
            return cord[i] == NO_NAME && number[i] >= least && number[i] <= greatest;
        }

        /** Asked only where no module has wrong inputs, so that each number is 64 or less. */
        private int delaysUpTo(int last) {
            int sum = 0;
            for (int m = 0; m <= last; m++) {
                sum += kind[m] == Kinds.DEL ? number[Kinds.MOST_INPUTS * m + 1] : 0;
            }
            return sum;
        }
    }

    /** Reads a text into a patch, character by character, or finds the place of its fault. */
    private static final class Reader {
        private static final int BEFORE_NAME = 0;
        private static final int IN_NAME = 1;
        private static final int AFTER_NAME = 2;
        private static final int BEFORE_WORD = 3;
        private static final int IN_WORD = 4;
        private static final int AFTER_WORD = 5;
        private static final int BEFORE_INPUTS = 6;
        private static final int BEFORE_INPUT = 7;
        private static final int IN_CORD = 8;
        private static final int AFTER_MINUS = 9;
        private static final int IN_NUMBER = 10;
        private static final int AFTER_INPUT = 11;
        private static final int AFTER_INPUTS = 12;

        private static final int MOST_LETTERS = 4;
        private static final int MOST_DIGITS = 9;

        final Patch patch = new Patch();
        private int state;
        /** How many letters the name or word, or digits the number, has so far. */
        private int size;
        /** A bit for each kind whose word begins like the word that is read. */
        private int kinds;
        private int sign;

        /** Answers the place of the text's fault, NONE when the text is a patch: that is kept. */
        int read(char[] text, int length) {
            patch.clear();
            state = BEFORE_NAME;
            for (int place = 0; place < length; place++) {
                int next = stateAfter(text[place]);
                if (next == NONE) {
                    return place;
                }
                state = next;
            }
            return state == BEFORE_NAME && patch.modules > 0 ? NONE : length;
        }

        private int stateAfter(char c) {
            if (c >= 'a' && c <= 'z') {
                return stateAfterLetter(c);
            }
            if (c >= '0' && c <= '9') {
                return stateAfterDigit(c - '0');
            }
            switch (c) {
                case ' ':
                    return stateAfterBlank();
                case '=':
                    return stateAfterEquals();
                case '(':
                    return state == AFTER_WORD ? BEFORE_INPUTS : NONE;
                case '-':
                    return stateAfterMinus();
                case ',':
                    return hasInputBehind() && patch.hasRoomForInput() ? BEFORE_INPUT : NONE;
                case ')':
                    return hasInputBehind() || state == BEFORE_INPUTS ? AFTER_INPUTS : NONE;
                case ';':
                    return state == AFTER_INPUTS ? BEFORE_NAME : NONE;
                default:
                    return NONE;
            }
        }

        private int stateAfterLetter(char letter) {
            switch (state) {
                case BEFORE_NAME:
                    patch.addModule();
                    size = 0;
                    return stateInName(letter);
                case IN_NAME:
                    return stateInName(letter);
                case BEFORE_WORD:
                    size = 0;
                    kinds = Kinds.ALL;
                    return stateInWord(letter);
                case IN_WORD:
                    return stateInWord(letter);
                case BEFORE_INPUTS:
                case BEFORE_INPUT:
                    patch.addInput();
                    size = 0;
                    return stateInCord(letter);
                case IN_CORD:
                    return stateInCord(letter);
                default:
                    return NONE;
            }
        }

        /** A name that can grow no more is as good as ended, and so are words and numbers. */
        private int stateInName(char letter) {
            patch.addToName(letter);
            size++;
            return size < MOST_LETTERS ? IN_NAME : AFTER_NAME;
        }

        private int stateInCord(char letter) {
            patch.addToCord(letter);
            size++;
            return size < MOST_LETTERS ? IN_CORD : AFTER_INPUT;
        }

        private int stateInWord(char letter) {
            kinds &= Kinds.withLetter(size, letter);
            size++;
            if (kinds == 0) {
                return NONE;
            }
            if (size < Kinds.WORD_LETTERS) {
                return IN_WORD;
            }
            patch.setKind(Integer.numberOfTrailingZeros(kinds));
            return AFTER_WORD;
        }

        private int stateAfterDigit(int digit) {
            switch (state) {
                case BEFORE_INPUTS:
                case BEFORE_INPUT:
                    patch.addInput();
                    size = 0;
                    sign = 1;
                    return stateInNumber(digit);
                case AFTER_MINUS:
                case IN_NUMBER:
                    return stateInNumber(digit);
                default:
                    return NONE;
            }
        }

        private int stateInNumber(int digit) {
            patch.addToNumber(sign * digit);
            size++;
            return size < MOST_DIGITS ? IN_NUMBER : AFTER_INPUT;
        }

        private int stateAfterMinus() {
            if (state != BEFORE_INPUTS && state != BEFORE_INPUT) {
                return NONE;
            }
            patch.addInput();
            size = 0;
            sign = -1;
            return AFTER_MINUS;
        }

        private int stateAfterBlank() {
            switch (state) {
                case IN_NAME:
                    return AFTER_NAME;
                case IN_CORD:
                case IN_NUMBER:
                    return AFTER_INPUT;
                case IN_WORD:
                case AFTER_MINUS:
                    return NONE;
                default:
                    return state;
            }
        }

        private int stateAfterEquals() {
            return state == IN_NAME || state == AFTER_NAME ? BEFORE_WORD : NONE;
        }

        private boolean hasInputBehind() {
            return state == IN_CORD || state == IN_NUMBER || state == AFTER_INPUT;
        }
    }

    /** The modules of a patch without faults: their order, what stands for them, who is kept. */
    private static final class Wiring {
        int modules;
        final int[] kind = new int[Patch.MOST_MODULES];
        /** As in a patch, but that a cord counts as what stands for the module it comes from. */
        final int[] from = new int[Patch.MOST_MODULES * Kinds.MOST_INPUTS];
        final int[] number = new int[Patch.MOST_MODULES * Kinds.MOST_INPUTS];
        final int[] order = new int[Patch.MOST_MODULES];
        final boolean[] kept = new boolean[Patch.MOST_MODULES];

        /** Of each module the one that stands for it, NONE when a number does. */
        private final int[] stand = new int[Patch.MOST_MODULES];
        private final int[] standNumber = new int[Patch.MOST_MODULES];

        void make(Patch patch, boolean optimised) {
            modules = Math.min(patch.modules, Patch.MOST_MODULES);
            System.arraycopy(patch.kind, 0, kind, 0, modules);
            System.arraycopy(patch.from, 0, from, 0, Kinds.MOST_INPUTS * modules);
            System.arraycopy(patch.number, 0, number, 0, Kinds.MOST_INPUTS * modules);
            for (int m = 0; m < modules; m++) {
                stand[m] = m;
                standNumber[m] = 0;
                kept[m] = !optimised;
            }
            putInOrder();
            if (optimised) {
                findStands();
                keepNeeded();
            }
        }

        /** The module that stands for the output, NONE when outputNumber() does. */
        int outputModule() {
            return stand[modules - 1];
        }

        int outputNumber() {
            return standNumber[modules - 1];
        }

        private void putInOrder() {
            int placed = 0;
            for (int i = 0; i < modules; i++) {
                order[i] = leastReady(placed);
                placed |= 1 << order[i];
            }
        }

        /** Without loops there is always one, so the last module needs no look. */
        private int leastReady(int placed) {
            for (int m = 0; m < modules - 1; m++) {
                if ((placed >> m & 1) == 0 && isReady(m, placed)) {
                    return m;
                }
            }
            return modules - 1;
        }

        private boolean isReady(int m, int placed) {
            if (kind[m] == Kinds.DEL) {
                return true;
            }
            for (int j = 0; j < Kinds.inputsOf(kind[m]); j++) {
                int source = from[Kinds.MOST_INPUTS * m + j];
                if (source != NONE && (placed >> source & 1) == 0) {
                    return false;
                }
            }
            return true;
        }

        private void findStands() {
            for (int i = 0; i < modules; i++) {
                int m = order[i];
                if (kind[m] != Kinds.DEL) {
                    readStands(m);
                    findStand(i);
                }
            }
            // what a del reads may come later in the order, so that it waits for all the others
            for (int m = 0; m < modules; m++) {
                if (kind[m] == Kinds.DEL) {
                    readStands(m);
                }
            }
        }

        private void readStands(int m) {
            for (int j = 0; j < Kinds.inputsOf(kind[m]); j++) {
                int i = Kinds.MOST_INPUTS * m + j;
                int source = from[i];
                if (source != NONE) {
                    from[i] = stand[source];
                    number[i] = standNumber[source];
                }
            }
        }

        private void findStand(int place) {
            int m = order[place];
            if (Kinds.isPlain(kind[m]) && hasNumbersAlone(m)) {
                int first = Kinds.MOST_INPUTS * m;
                stand[m] = NONE;
                standNumber[m] = Kinds.plainValue(
                        kind[m], number[first], number[first + 1], number[first + 2]);
            } else if (!Kinds.hasMemory(kind[m])) {
                stand[m] = earliestAlike(place);
            }
        }

        private boolean hasNumbersAlone(int m) {
            for (int j = 0; j < Kinds.inputsOf(kind[m]); j++) {
                if (from[Kinds.MOST_INPUTS * m + j] != NONE) {
                    return false;
                }
            }
            return true;
        }

        private int earliestAlike(int place) {
            int m = order[place];
            for (int i = 0; i < place; i++) {
                int earlier = order[i];
                if (stand[earlier] == earlier && areAlike(earlier, m)) {
                    return earlier;
                }
            }
            return m;
        }

        private boolean areAlike(int a, int b) {
            if (kind[a] != kind[b]) {
                return false;
            }
            boolean same = true;
            for (int j = 0; j < Kinds.inputsOf(kind[a]); j++) {
                same = same && isSameInput(a, j, b, j);
            }
            return same || Kinds.inputsMaySwap(kind[a])
                    && isSameInput(a, 0, b, 1) && isSameInput(a, 1, b, 0);
        }

        private boolean isSameInput(int a, int j, int b, int k) {
            int one = Kinds.MOST_INPUTS * a + j;
            int other = Kinds.MOST_INPUTS * b + k;
            return from[one] == from[other] && (from[one] != NONE || number[one] == number[other]);
        }

        private void keepNeeded() {
            if (outputModule() == NONE) {
                return;
            }
            kept[outputModule()] = true;
            // cords into dels may go against the order, so one pass is not enough; the longest way
            // has fewer cords than there are modules
            for (int pass = 1; pass < modules; pass++) {
                for (int m = 0; m < modules; m++) {
                    if (kept[m]) {
                        keepSources(m);
                    }
                }
            }
        }

        private void keepSources(int m) {
            for (int j = 0; j < Kinds.inputsOf(kind[m]); j++) {
                int source = from[Kinds.MOST_INPUTS * m + j];
                if (source != NONE) {
                    kept[source] = true;
                }
            }
        }
    }

    /** The steps of the kept modules and their slots. Without a program there are no modules. */
    private static final class Program {
        static final int LAST_WHAT = 10;
        private static final int WHAT_KIND = 0;
        private static final int WHAT_MODULE = 1;
        private static final int WHAT_SLOT = 2;
        private static final int WHAT_READ_SLOT = 3;
        private static final int WHAT_READ_NUMBER = 7;

        final Wiring wiring = new Wiring();
        int stepCount;
        /** The first step that is a put. */
        int firstPut;
        final int[] stepModule = new int[2 * Patch.MOST_MODULES];
        int slotCount;
        /** Where in a voice's row the samples of each del begin. */
        final int[] lineStart = new int[Patch.MOST_MODULES];

        private final int[] slot = new int[Patch.MOST_MODULES];
        private final int[] lastReader = new int[Patch.MOST_MODULES];
        /** Of each slot the last step that reads the latest result in it. */
        private final int[] busyUntil = new int[Patch.MOST_MODULES];

        boolean isNone() {
            return wiring.modules == 0;
        }

        void make(Patch patch, boolean optimised) {
            wiring.make(patch, optimised);
            listSteps();
            layLines();
            findLastReaders();
            giveSlots();
        }

        private void listSteps() {
            stepCount = 0;
            for (int i = 0; i < wiring.modules; i++) {
                if (wiring.kept[wiring.order[i]]) {
                    stepModule[stepCount] = wiring.order[i];
                    stepCount++;
                }
            }
            firstPut = stepCount;
            for (int i = 0; i < firstPut; i++) {
                if (wiring.kind[stepModule[i]] == Kinds.DEL) {
                    stepModule[stepCount] = stepModule[i];
                    stepCount++;
                }
            }
        }

        private void layLines() {
            int start = 0;
            for (int i = firstPut; i < stepCount; i++) {
                lineStart[stepModule[i]] = start;
                start += wiring.number[Kinds.MOST_INPUTS * stepModule[i] + 1];
            }
        }

        private void findLastReaders() {
            Arrays.fill(lastReader, NONE);
            for (int i = 0; i < stepCount; i++) {
                for (int j = 0; j < Kinds.MOST_INPUTS; j++) {
                    int source = sourceOf(i, j);
                    if (source != NONE) {
                        lastReader[source] = i;
                    }
                }
            }
            int output = wiring.outputModule();
            if (output != NONE) {
                // the output's result stays to the end, as if a step behind all others read it
                lastReader[output] = stepCount;
            }
        }

        private void giveSlots() {
            Arrays.fill(busyUntil, NONE);
            slotCount = 0;
            for (int i = 0; i < firstPut; i++) {
                int m = stepModule[i];
                slot[m] = leastFreeSlot(i);
                busyUntil[slot[m]] = lastReader[m];
                slotCount = Math.max(slotCount, slot[m] + 1);
            }
        }

        /** There are as many slots as modules, so the last one needs no look. */
        private int leastFreeSlot(int i) {
            for (int s = 0; s < busyUntil.length - 1; s++) {
                if (busyUntil[s] <= i) {
                    return s;
                }
            }
            return busyUntil.length - 1;
        }

        private boolean reads(int i, int j) {
            int kind = kindOf(i);
            switch (kind) {
                case Kinds.PUT:
                    return j == 0;
                case Kinds.DEL:
                    // its number alone, which has no slot
                    return j == 1;
                default:
                    return j < Kinds.inputsOf(kind);
            }
        }

        private int kindOf(int i) {
            return i >= firstPut ? Kinds.PUT : wiring.kind[stepModule[i]];
        }

        private int sourceOf(int i, int j) {
            return reads(i, j) ? wiring.from[Kinds.MOST_INPUTS * stepModule[i] + j] : NONE;
        }

        int tell(int i, int what) {
            switch (what) {
                case WHAT_KIND:
                    return kindOf(i);
                case WHAT_MODULE:
                    return stepModule[i];
                case WHAT_SLOT:
                    return i >= firstPut ? NONE : slot[stepModule[i]];
                default:
                    return what < WHAT_READ_NUMBER
                            ? slotRead(i, what - WHAT_READ_SLOT)
                            : numberRead(i, what - WHAT_READ_NUMBER);
            }
        }

        private int slotRead(int i, int j) {
            int source = sourceOf(i, j);
            return source == NONE ? NONE : slot[source];
        }

        private int numberRead(int i, int j) {
            boolean isNumber = reads(i, j) && sourceOf(i, j) == NONE;
            return isNumber ? wiring.number[Kinds.MOST_INPUTS * stepModule[i] + j] : 0;
        }
    }

    /** A voice: what a note gave it, its memories, and the values of its latest sample. */
    private static final class Voice {
        private static final int ZEROS_TO_END = 16;
        private static final int STRENGTH_UNIT = 512;
        private static final int FIRST_NOISE = 1;
        private static final int NOISE_BITS = 0xB4BCD35C;
        private static final int HALF = 32768;

        private static final int RESTING = 0;
        private static final int RISING = 1;
        private static final int FALLING = 2;
        private static final int HOLDING = 3;
        private static final int RELEASING = 4;

        boolean taken;
        boolean gate;
        boolean sounding;
        /** Whether it has made a sample since it was taken. */
        boolean played;
        /** How many samples it has made since it sounds no more. */
        int quiet;
        /** Which taking of the desk was its latest. */
        long taking;
        final int[] values = new int[Patch.MOST_MODULES];

        private int pitch;
        private int strength;
        private int zeros;
        private final int[] in = new int[Kinds.MOST_INPUTS];
        /** A phase, the noise's bits, a level, L, the place in a del's line, or a number held. */
        private final int[] memory = new int[Patch.MOST_MODULES];
        /** A stage, B, or 1 if the g of hld was above 0 in the sample before. */
        private final int[] memoryToo = new int[Patch.MOST_MODULES];
        private final int[] lines = new int[Patch.MOST_DELAYS];

        void release() {
            taken = false;
            gate = false;
            sounding = false;
            played = false;
        }

        void take(Program program, int newPitch, int newStrength, long newTaking) {
            taken = true;
            gate = true;
            sounding = true;
            played = false;
            quiet = 0;
            zeros = 0;
            pitch = newPitch;
            strength = newStrength;
            taking = newTaking;
            forget(program.wiring);
        }

        private void forget(Wiring wiring) {
            for (int m = 0; m < wiring.modules; m++) {
                memory[m] = wiring.kind[m] == Kinds.NOI ? FIRST_NOISE : 0;
            }
            Arrays.fill(memoryToo, 0);
            Arrays.fill(lines, 0);
        }

        /** Goes on by one sample; answers the output's value in it. */
        int play(Program program, int[] knobs) {
            Wiring wiring = program.wiring;
            for (int i = 0; i < program.firstPut; i++) {
                int m = program.stepModule[i];
                if (wiring.kind[m] == Kinds.DEL) {
                    values[m] = lines[program.lineStart[m] + memory[m]];
                } else {
                    readInputs(wiring, m);
                    values[m] = nextValue(wiring.kind[m], m, knobs);
                }
            }
            for (int i = program.firstPut; i < program.stepCount; i++) {
                put(program, program.stepModule[i]);
            }
            played = true;
            int output = wiring.outputModule();
            int value = output == NONE ? wiring.outputNumber() : values[output];
            listen(value);
            return value;
        }

        private void readInputs(Wiring wiring, int m) {
            for (int j = 0; j < Kinds.MOST_INPUTS; j++) {
                in[j] = valueRead(wiring, Kinds.MOST_INPUTS * m + j);
            }
        }

        private int valueRead(Wiring wiring, int i) {
            return wiring.from[i] == NONE ? wiring.number[i] : values[wiring.from[i]];
        }

        private void put(Program program, int m) {
            int first = Kinds.MOST_INPUTS * m;
            lines[program.lineStart[m] + memory[m]] = valueRead(program.wiring, first);
            int next = memory[m] + 1;
            memory[m] = next < program.wiring.number[first + 1] ? next : 0;
        }

        private void listen(int value) {
            if (!sounding) {
                quiet++;
                return;
            }
            zeros = gate || value != 0 ? 0 : zeros + 1;
            sounding = zeros < ZEROS_TO_END;
        }

        private int nextValue(int kind, int m, int[] knobs) {
            switch (kind) {
                case Kinds.KNO:
                    return knobs[in[0]];
                case Kinds.PIT:
                    return pitch;
                case Kinds.GAT:
                    return gate ? Kinds.ONE : 0;
                case Kinds.VEL:
                    return STRENGTH_UNIT * strength;
                case Kinds.SAW:
                case Kinds.SQR:
                case Kinds.TRI:
                case Kinds.BOW:
                    memory[m] += in[0];
                    return Kinds.waveValue(kind, memory[m]);
                case Kinds.NOI:
                    return nextNoise(m);
                case Kinds.ENV:
                    return nextLevel(m);
                case Kinds.LOW:
                    return nextLow(m);
                case Kinds.HLD:
                    return nextHeld(m);
                default:
                    return Kinds.plainValue(kind, in[0], in[1], in[2]);
            }
        }

        private int nextNoise(int m) {
            boolean wentOut = (memory[m] & 1) != 0;
            memory[m] = memory[m] >>> 1 ^ (wentOut ? NOISE_BITS : 0);
            return memory[m] >> 16;
        }

        private int nextLevel(int m) {
            turnStage(m, in[0] > 0);
            long level = memory[m];
            switch (memoryToo[m]) {
                case RISING:
                    return levelAt(m, Math.min(Kinds.ONE, level + Math.max(0, in[1])), Kinds.ONE);
                case FALLING:
                    return levelAt(m, Math.max(HALF, level - Math.max(0, in[2])), HALF);
                case RELEASING:
                    return levelAt(m, Math.max(0, level - Math.max(0, in[3])), 0);
                default:
                    return memory[m];
            }
        }

        private void turnStage(int m, boolean on) {
            int stage = memoryToo[m];
            if (on && (stage == RESTING || stage == RELEASING)) {
                memoryToo[m] = RISING;
            } else if (!on && stage >= RISING && stage <= HOLDING) {
                memoryToo[m] = RELEASING;
            }
        }

        /** The stages follow one another, and behind the last one comes the first. */
        private int levelAt(int m, long level, int aim) {
            memory[m] = (int) level;
            if (memory[m] == aim) {
                memoryToo[m] = memoryToo[m] == RELEASING ? RESTING : memoryToo[m] + 1;
            }
            return memory[m];
        }

        private int nextLow(int m) {
            int l = memory[m];
            int b = memoryToo[m];
            int f = in[1];
            int h = Kinds.stopped((long) in[0] - l - Kinds.scaled(in[2], b));
            b = Kinds.stopped(b + Kinds.scaled(f, h));
            l = Kinds.stopped(l + Kinds.scaled(f, b));
            memory[m] = l;
            memoryToo[m] = b;
            return l;
        }

        private int nextHeld(int m) {
            boolean on = in[1] > 0;
            if (on && memoryToo[m] == 0) {
                memory[m] = in[0];
            }
            memoryToo[m] = on ? 1 : 0;
            return memory[m];
        }
    }
}
