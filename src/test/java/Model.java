import java.math.BigInteger;
import java.util.ArrayList;
import java.util.Arrays;
import java.util.HashMap;
import java.util.HashSet;
import java.util.LinkedHashSet;
import java.util.List;
import java.util.Map;
import java.util.NoSuchElementException;
import java.util.Set;
import java.util.regex.Matcher;
import java.util.regex.Pattern;

/**
 * A second desk, slow and by the words of the document, to compare the first one with: texts by a
 * regular expression, numbers without bounds, every voice with its whole history, and no
 * optimising where values are made.
 */
final class Model {
    private static final List<String> WORDS = Arrays.asList(
            "add sub mul mix lim cmp sel kno pit gat vel saw sqr tri bow noi env low del hld"
                    .split(" "));
    private static final String INPUT = "(?:[a-z]{1,4}|-?[0-9]{1,9})";
    private static final String STATEMENT = "([a-z]{1,4}) *= *(" + String.join("|", WORDS)
            + ") *\\( *((?:" + INPUT + " *(?:, *" + INPUT + " *){0,3})?)\\) *; *";
    private static final Pattern PATCH = Pattern.compile(" *(?:" + STATEMENT + ")+");
    private static final Pattern ONE = Pattern.compile(STATEMENT);
    private static final int DEL = 18;

    private String text = "";
    private boolean optimising;
    private int named = -1;
    private Built built;
    private final int[] knobs = new int[4];
    private List<Taken> voices = new ArrayList<>(Arrays.asList((Taken) null));
    private List<Integer> made = new ArrayList<>();
    private int takings;

    /** A module as written: its inputs are names or numbers. */
    private static final class Written {
        String name;
        int kind;
        List<Object> inputs = new ArrayList<>();
    }

    /** A step: a put, or the step of a module. */
    private static final class Step {
        int module;
        boolean isPut;
        int slot = -1;
        /** Of each input that is read a module (Integer) or a number; null where none is read. */
        Object[] reads = new Object[4];
    }

    int type(long characters, int n) {
        if (n < 1 || n > 8) {
            return -1;
        }
        StringBuilder more = new StringBuilder();
        for (int i = n - 1; i >= 0; i--) {
            more.append((char) (characters >> 8 * i & 255));
        }
        if (!more.chars().allMatch(c -> c >= 32 && c <= 126) || text.length() + n > 300) {
            return -1;
        }
        text += more;
        return text.length();
    }

    int erase() {
        int had = text.length();
        text = "";
        return had;
    }

    int compile() {
        named = -1;
        if (!PATCH.matcher(text).matches()) {
            return -1 - place();
        }
        List<Written> modules = modules();
        for (int fault : new int[] {3, 2, 4, 5, 1}) {
            for (int m = 0; m < modules.size(); m++) {
                if (has(fault, modules, m)) {
                    named = m;
                    return fault;
                }
            }
        }
        built = new Built(modules, optimising);
        reset();
        return 0;
    }

    /** The length of the longest beginning of the text that a patch may begin with. */
    private int place() {
        int longest = 0;
        for (int end = 1; end <= text.length(); end++) {
            Matcher matcher = PATCH.matcher(text.substring(0, end));
            if (!matcher.matches() && !matcher.hitEnd()) {
                break;
            }
            longest = end;
        }
        return longest;
    }

    private List<Written> modules() {
        List<Written> modules = new ArrayList<>();
        Matcher matcher = ONE.matcher(text);
        while (matcher.find()) {
            Written written = new Written();
            written.name = matcher.group(1);
            written.kind = WORDS.indexOf(matcher.group(2));
            for (String input : matcher.group(3).split(",")) {
                String bare = input.trim();
                if (!bare.isEmpty()) {
                    boolean isName = Character.isLetter(bare.charAt(0));
                    written.inputs.add(isName ? bare : (Object) new BigInteger(bare));
                }
            }
            modules.add(written);
        }
        return modules;
    }

    private static int find(List<Written> modules, Object name) {
        for (int m = 0; m < modules.size(); m++) {
            if (modules.get(m).name.equals(name)) {
                return m;
            }
        }
        return -1;
    }

    private static boolean has(int fault, List<Written> modules, int m) {
        Written w = modules.get(m);
        switch (fault) {
            case 3:
                return find(modules, w.name) != m;
            case 2:
                return w.inputs.stream().anyMatch(i -> i instanceof String && find(modules, i) < 0);
            case 4:
                return w.inputs.size() != inputsOf(w.kind)
                        || w.kind == DEL && !within(w.inputs.get(1), 1, 64)
                        || w.kind == 7 && !within(w.inputs.get(0), 0, 3);
            case 5:
                int sum = 0;
                for (int k = 0; k <= m; k++) {
                    Written one = modules.get(k);
                    sum += one.kind == DEL ? ((BigInteger) one.inputs.get(1)).intValue() : 0;
                }
                return m >= 24 || sum > 128;
            default:
                return leads(modules, m, m, new HashSet<>());
        }
    }

    private static int inputsOf(int kind) {
        return "22233231000111104322".charAt(kind) - '0';
    }

    private static boolean within(Object input, int least, int greatest) {
        return input instanceof BigInteger
                && ((BigInteger) input).compareTo(BigInteger.valueOf(least)) >= 0
                && ((BigInteger) input).compareTo(BigInteger.valueOf(greatest)) <= 0;
    }

    /** Whether cords, none into a del, lead from one module into another. */
    private static boolean leads(List<Written> modules, int from, int into, Set<Integer> seen) {
        Written w = modules.get(into);
        if (w.kind == DEL) {
            return false;
        }
        for (Object input : w.inputs) {
            int source = input instanceof String ? find(modules, input) : -1;
            if (source == from) {
                return true;
            }
            if (source >= 0 && seen.add(source) && leads(modules, from, source, seen)) {
                return true;
            }
        }
        return false;
    }

    int named() {
        return named;
    }

    void optimise(boolean on) {
        optimising = on;
    }

    int steps() {
        return built == null ? 0 : built.steps.size();
    }

    int step(int i, int what) {
        if (i < 0 || i >= steps()) {
            throw new IndexOutOfBoundsException();
        }
        if (what < 0 || what > 10) {
            throw new IllegalArgumentException();
        }
        Step step = built.steps.get(i);
        if (what < 3) {
            int kind = step.isPut ? 20 : built.modules.get(step.module).kind;
            return new int[] {kind, step.module, step.slot}[what];
        }
        Object read = step.reads[(what - 3) % 4];
        if (what < 7) {
            return read instanceof Integer ? built.slotOf((Integer) read) : -1;
        }
        return read instanceof BigInteger ? ((BigInteger) read).intValueExact() : 0;
    }

    int slots() {
        Set<Integer> slots = new HashSet<>();
        for (int i = 0; i < steps(); i++) {
            slots.add(built.steps.get(i).slot);
        }
        slots.remove(-1);
        return slots.size();
    }

    /** A program: the order, what stands for the modules, the steps. */
    private static final class Built {
        final List<Written> modules;
        final List<Integer> order = new ArrayList<>();
        /** For each module an Integer, a module, or a BigInteger, a number. */
        final Map<Integer, Object> stands = new HashMap<>();
        final Set<Integer> kept = new LinkedHashSet<>();
        final List<Step> steps = new ArrayList<>();

        Built(List<Written> modules, boolean optimised) {
            this.modules = modules;
            while (order.size() < modules.size()) {
                order.add(nextOne());
            }
            for (int m : order) {
                stands.put(m, optimised ? standFor(m) : (Object) m);
            }
            if (optimised) {
                keep(stands.get(modules.size() - 1));
            } else {
                kept.addAll(order);
            }
            makeSteps();
            for (int i = 0; i < steps.size(); i++) {
                giveSlot(i);
            }
        }

        private int nextOne() {
            int m = 0;
            while (order.contains(m) || modules.get(m).kind != DEL && !order.containsAll(into(m))) {
                m++;
            }
            return m;
        }

        private List<Integer> into(int m) {
            List<Integer> sources = new ArrayList<>();
            for (Object input : modules.get(m).inputs) {
                if (input instanceof String) {
                    sources.add(find(modules, input));
                }
            }
            return sources;
        }

        private Object counted(Object input) {
            return input instanceof String ? stands.get(find(modules, input)) : input;
        }

        private List<Object> countedInputs(int m) {
            List<Object> inputs = new ArrayList<>();
            for (Object input : modules.get(m).inputs) {
                inputs.add(counted(input));
            }
            return inputs;
        }

        private Object standFor(int m) {
            int kind = modules.get(m).kind;
            if (kind >= 11) {
                return m;
            }
            List<Object> inputs = countedInputs(m);
            if (kind < 7 && inputs.stream().allMatch(i -> i instanceof BigInteger)) {
                BigInteger[] in = new BigInteger[4];
                return Taken.plain(kind, inputs.toArray(in));
            }
            for (int earlier : order.subList(0, order.indexOf(m))) {
                if (stands.get(earlier).equals(earlier) && modules.get(earlier).kind == kind
                        && alike(kind, inputs, countedInputs(earlier))) {
                    return earlier;
                }
            }
            return m;
        }

        private static boolean alike(int kind, List<Object> some, List<Object> others) {
            if (some.equals(others)) {
                return true;
            }
            return (kind == 0 || kind == 2)
                    && some.equals(Arrays.asList(others.get(1), others.get(0)));
        }

        private void keep(Object stand) {
            if (stand instanceof Integer && kept.add((Integer) stand)) {
                for (Object input : countedInputs((Integer) stand)) {
                    keep(input);
                }
            }
        }

        private void makeSteps() {
            List<Step> puts = new ArrayList<>();
            for (int m : order) {
                if (!kept.contains(m)) {
                    continue;
                }
                Step step = new Step();
                step.module = m;
                steps.add(step);
                List<Object> inputs = countedInputs(m);
                for (int j = 0; j < inputs.size(); j++) {
                    step.reads[j] = inputs.get(j);
                }
                if (modules.get(m).kind == DEL) {
                    step.reads[0] = null;
                    Step put = new Step();
                    put.module = m;
                    put.isPut = true;
                    put.reads[0] = inputs.get(0);
                    puts.add(put);
                }
            }
            steps.addAll(puts);
        }

        private void giveSlot(int i) {
            Step step = steps.get(i);
            int slot = 0;
            while (isBusy(i, slot)) {
                slot++;
            }
            step.slot = step.isPut ? -1 : slot;
        }

        private boolean isBusy(int i, int slot) {
            for (Step earlier : steps.subList(0, i)) {
                if (earlier.slot == slot && isWanted(i, earlier.module)) {
                    return true;
                }
            }
            return false;
        }

        private boolean isWanted(int i, int module) {
            boolean wanted = stands.get(modules.size() - 1).equals(module);
            for (Step later : steps.subList(i + 1, steps.size())) {
                wanted |= Arrays.asList(later.reads).contains(module);
            }
            return wanted;
        }

        int slotOf(int module) {
            for (Step step : steps) {
                if (step.module == module && !step.isPut) {
                    return step.slot;
                }
            }
            return -1;
        }
    }

    void voices(int n) {
        if (n < 1 || n > 4) {
            throw new IllegalArgumentException();
        }
        voices = new ArrayList<>(Arrays.asList(new Taken[n]));
        reset();
    }

    int note(int pitch, int strength) {
        if (strength < 1 || strength > 127) {
            throw new IllegalArgumentException();
        }
        int voice = voiceToTake();
        voices.set(voice, new Taken(pitch, strength, takings++));
        return voice;
    }

    private int voiceToTake() {
        if (voices.contains(null)) {
            return voices.indexOf(null);
        }
        int best = 0;
        for (int v = 1; v < voices.size(); v++) {
            Taken one = voices.get(v);
            Taken other = voices.get(best);
            boolean older = one.active() && other.active() && one.taking < other.taking;
            if (one.quiet() > other.quiet() || older) {
                best = v;
            }
        }
        return best;
    }

    private Taken voice(int voice) {
        if (voice < 0 || voice >= voices.size()) {
            throw new IndexOutOfBoundsException();
        }
        return voices.get(voice);
    }

    void off(int voice) {
        Taken taken = voice(voice);
        if (taken == null || !taken.gate) {
            throw new IllegalStateException();
        }
        taken.gate = false;
    }

    boolean active(int voice) {
        Taken taken = voice(voice);
        return taken != null && taken.active();
    }

    void knob(int k, int v) {
        if (k < 0 || k > 3) {
            throw new IndexOutOfBoundsException();
        }
        knobs[k] = v;
    }

    void run(int n) {
        if (n < 0 || n > 64) {
            throw new IllegalArgumentException();
        }
        if (built == null) {
            throw new IllegalStateException();
        }
        made = new ArrayList<>();
        for (int i = 0; i < n; i++) {
            BigInteger sum = BigInteger.ZERO;
            for (Taken taken : voices) {
                if (taken != null) {
                    sum = sum.add(taken.sample(built.modules, knobs));
                }
            }
            made.add(Taken.between(sum, -32768, 32767).intValueExact());
        }
    }

    int out(int i) {
        if (i < 0 || i >= made.size()) {
            throw new IndexOutOfBoundsException();
        }
        return made.get(i);
    }

    int tap(int voice, int module) {
        Taken taken = voice(voice);
        if (built == null || module < 0 || module >= built.modules.size()) {
            throw new IndexOutOfBoundsException();
        }
        if (!built.kept.contains(module) || taken == null || taken.history.isEmpty()) {
            throw new NoSuchElementException();
        }
        return taken.history.get(taken.history.size() - 1)[module].intValueExact();
    }

    void reset() {
        voices.replaceAll(v -> null);
        made = new ArrayList<>();
    }

    /** A voice since a note took it, with the values of all modules in all its samples. */
    private static final class Taken {
        final int pitch;
        final int strength;
        final int taking;
        boolean gate = true;
        final List<BigInteger[]> history = new ArrayList<>();
        final List<Boolean> gates = new ArrayList<>();
        private final Map<Integer, BigInteger[]> memories = new HashMap<>();

        Taken(int pitch, int strength, int taking) {
            this.pitch = pitch;
            this.strength = strength;
            this.taking = taking;
        }

        boolean active() {
            return quiet() < 0;
        }

        /** How many samples it has not been active for, -1 when it is. */
        int quiet() {
            int zeros = 0;
            for (int t = 0; t < history.size(); t++) {
                BigInteger[] values = history.get(t);
                boolean zero = !gates.get(t) && values[values.length - 1].signum() == 0;
                zeros = zero ? zeros + 1 : 0;
                if (zeros == 16) {
                    return history.size() - 1 - t;
                }
            }
            return -1;
        }

        BigInteger sample(List<Written> modules, int[] knobs) {
            BigInteger[] values = new BigInteger[modules.size()];
            for (int m = 0; m < values.length; m++) {
                value(modules, knobs, values, m);
            }
            history.add(values);
            gates.add(gate);
            return values[values.length - 1];
        }

        private BigInteger value(List<Written> modules, int[] knobs, BigInteger[] values, int m) {
            if (values[m] != null) {
                return values[m];
            }
            Written w = modules.get(m);
            BigInteger[] in = new BigInteger[4];
            for (int j = 0; j < w.inputs.size() && w.kind != DEL; j++) {
                Object input = w.inputs.get(j);
                in[j] = input instanceof BigInteger ? (BigInteger) input
                        : value(modules, knobs, values, find(modules, input));
            }
            if (w.kind < 7) {
                values[m] = plain(w.kind, in);
            } else if (w.kind < 11) {
                int knob = w.kind == 7 ? knobs[in[0].intValueExact()] : 0;
                int[] given = {knob, pitch, gate ? 65536 : 0, 512 * strength};
                values[m] = big(given[w.kind - 7]);
            } else if (w.kind == DEL) {
                values[m] = ago(w, modules);
            } else {
                values[m] = remembered(w.kind, m, in);
            }
            return values[m];
        }

        private BigInteger ago(Written w, List<Written> modules) {
            int t = history.size() - ((BigInteger) w.inputs.get(1)).intValueExact();
            if (t < 0) {
                return BigInteger.ZERO;
            }
            Object x = w.inputs.get(0);
            return x instanceof BigInteger ? (BigInteger) x : history.get(t)[find(modules, x)];
        }

        static BigInteger big(long value) {
            return BigInteger.valueOf(value);
        }

        static BigInteger between(BigInteger exact, long least, long greatest) {
            return exact.max(big(least)).min(big(greatest));
        }

        private static BigInteger stopped(BigInteger exact) {
            return between(exact, Integer.MIN_VALUE, Integer.MAX_VALUE);
        }

        static BigInteger plain(int kind, BigInteger[] in) {
            BigInteger x = in[0];
            BigInteger y = in[1];
            BigInteger z = in[2];
            switch (kind) {
                case 0:
                    return stopped(x.add(y));
                case 1:
                    return stopped(x.subtract(y));
                case 2:
                    return stopped(x.multiply(y).shiftRight(16));
                case 3:
                    return stopped(x.add(y.subtract(x).multiply(z).shiftRight(16)));
                case 4:
                    return x.compareTo(y) < 0 ? y : x.compareTo(z) > 0 ? z : x;
                case 5:
                    return big(x.compareTo(y) > 0 ? 65536 : 0);
                default:
                    return x.signum() > 0 ? y : z;
            }
        }

        private BigInteger remembered(int kind, int m, BigInteger[] in) {
            BigInteger first = big(kind == 15 ? 1 : 0);
            BigInteger[] memory = memories.computeIfAbsent(
                    m, k -> new BigInteger[] {first, BigInteger.ZERO});
            switch (kind) {
                case 15:
                    BigInteger next = memory[0].shiftRight(1);
                    memory[0] = memory[0].testBit(0) ? next.xor(big(0xB4BCD35CL)) : next;
                    return big(memory[0].intValue()).shiftRight(16);
                case 16:
                    return envelope(memory, in);
                case 17:
                    BigInteger low = memory[0];
                    BigInteger qb = in[2].multiply(memory[1]).shiftRight(16);
                    BigInteger h = stopped(in[0].subtract(low).subtract(qb));
                    memory[1] = stopped(memory[1].add(in[1].multiply(h).shiftRight(16)));
                    memory[0] = stopped(low.add(in[1].multiply(memory[1]).shiftRight(16)));
                    return memory[0];
                case 19:
                    BigInteger on = big(in[1].signum() > 0 ? 1 : 0);
                    memory[0] = on.compareTo(memory[1]) > 0 ? in[0] : memory[0];
                    memory[1] = on;
                    return memory[0];
                default:
                    memory[0] = big(memory[0].add(in[0]).intValue());
                    return wave(kind, memory[0].shiftRight(16).longValueExact());
            }
        }

        private static BigInteger wave(int kind, long p) {
            long amount = p < 0 ? -p : p;
            switch (kind) {
                case 11:
                    return big(p);
                case 12:
                    return big(p >= 0 ? 32767 : -32767);
                case 13:
                    return big(32768 - 2 * amount);
                default:
                    return big(p * (32768 - amount)).divide(big(8192));
            }
        }

        private static BigInteger envelope(BigInteger[] memory, BigInteger[] in) {
            long level = memory[0].longValueExact();
            int stage = memory[1].intValueExact();
            if (in[0].signum() > 0) {
                stage = stage == 0 || stage == 4 ? 1 : stage;
            } else {
                stage = stage == 0 ? 0 : 4;
            }
            long a = Math.max(in[1].longValueExact(), 0);
            long d = Math.max(in[2].longValueExact(), 0);
            long r = Math.max(in[3].longValueExact(), 0);
            if (stage == 1) {
                stage = level + a >= 65536 ? 2 : 1;
                level = stage == 2 ? 65536 : level + a;
            } else if (stage == 2) {
                stage = level - d <= 32768 ? 3 : 2;
                level = stage == 3 ? 32768 : level - d;
            } else if (stage == 4) {
                stage = level - r <= 0 ? 0 : 4;
                level = stage == 0 ? 0 : level - r;
            }
            memory[0] = big(level);
            memory[1] = big(stage);
            return memory[0];
        }
    }
}
