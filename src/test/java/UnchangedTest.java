import java.util.ArrayList;
import java.util.LinkedHashMap;
import java.util.List;
import java.util.Map;

/**
 * "Calls that throw change nothing, but for compile() and its faults", and what type() refuses
 * changes nothing: of two desks with the same calls behind them one alone gets such a call, often
 * twice, and all that they answer later is the same. So it is with calls that only ask.
 */
public final class UnchangedTest {
    private static final int MAX = Integer.MAX_VALUE;
    private static final int MIN = Integer.MIN_VALUE;
    private static final String[] FAULTY = {
        "", " ", "a=pit()", "?", "p=pit();b=gat();?", "a=pit();a=pit();", "a=saw(q);",
        "a=pit();b=gat();c=vel();d=saw();", "a=del(1,65);", "a=kno(4);",
        "a=del(1,64);b=del(1,64);c=del(1,1);", "a=pit();b=add(c,1);c=add(b,1);",
    };

    private interface State {
        PatchVoices make();
    }

    private final Map<String, State> states = new LinkedHashMap<>();
    private final Map<String, Due.Call> refused = new LinkedHashMap<>();
    private final Map<String, Due.Call> asking = new LinkedHashMap<>();

    public static void main(String[] args) {
        UnchangedTest test = new UnchangedTest();
        test.listStates();
        test.listTextCalls();
        test.listProgramCalls();
        test.listVoiceCalls();
        test.listSampleCalls();
        test.listAskingCalls();
        test.refusedCallsChangeNothing();
        test.askingChangesNothing();
        test.faultsChangeNothing();
        Due.end("UnchangedTest");
    }

    private void listStates() {
        states.put("a new object", PatchVoices::new);
        states.put("a text", () -> typed("a=pit()"));
        states.put("a text of 299", () -> typed("a=pit();" + " ".repeat(291)));
        states.put("a full text", () -> typed("a=pit();" + " ".repeat(292)));
        states.put("a fault", () -> faulty(new PatchVoices()));
        states.put("a voice without a program", () -> voiceWithoutProgram());
        states.put("a program", () -> Due.playing("a=pit();d=del(a,3);b=add(d,a);", false));
        states.put("a number for a program", () -> playingNumber());
        states.put("samples of no voice", () -> samplesOfNone());
        states.put("all voices taken", () -> playing(3));
        states.put("a voice not taken", () -> playing(4));
        states.put("a voice without a sample", () -> withNewVoice());
        states.put("a voice 15 zeros behind its gate", () -> fifteenZeros());
        states.put("voices not active", () -> quiet());
        states.put("run(0)", () -> behindRunOfNone());
        states.put("a fault behind a program", () -> faulty(playing(3)));
    }

    private static PatchVoices typed(String text) {
        PatchVoices x = new PatchVoices();
        Due.type(x, text);
        return x;
    }

    private static PatchVoices faulty(PatchVoices x) {
        Due.compile(x, "a=pit();b=gat();c=pit(1);");
        return x;
    }

    private static PatchVoices voiceWithoutProgram() {
        PatchVoices x = typed("a=gat()");
        x.voices(2);
        x.note(5, 5);
        x.note(6, 6);
        x.off(1);
        return x;
    }

    private static PatchVoices playingNumber() {
        PatchVoices x = Due.playing("a=noi();o=add(3,4);", true);
        x.note(5, 5);
        x.run(2);
        return x;
    }

    private static PatchVoices samplesOfNone() {
        PatchVoices x = Due.playing("a=pit();d=del(a,3);b=add(d,a);", true);
        x.voices(2);
        x.run(4);
        return x;
    }

    /** Three voices sound; of the modules 0 to 9 three are not kept. */
    private static PatchVoices playing(int voices) {
        PatchVoices x = Due.playing("g=gat();f=gat();k=kno(1);p=pit();t=add(9,1);s=saw(p);"
                + "e=env(f,9000,t,900);d=del(s,3);n=noi();o=mix(d,k,e);", true);
        x.voices(voices);
        x.knob(1, 300);
        x.knob(0, 1);
        x.knob(2, 2);
        x.knob(3, 3);
        x.note(70000000, 100);
        x.run(5);
        x.note(-90000000, 1);
        x.note(123456, 127);
        x.off(0);
        x.run(6);
        return x;
    }

    private static PatchVoices withNewVoice() {
        PatchVoices x = playing(3);
        x.note(1, 1);
        return x;
    }

    private static PatchVoices fifteenZeros() {
        PatchVoices x = Due.playing("g=gat();s=saw(700000);o=mul(g,s);", false);
        x.voices(2);
        x.note(1, 1);
        x.note(1, 1);
        x.run(3);
        x.off(1);
        x.run(15);
        return x;
    }

    private static PatchVoices quiet() {
        PatchVoices x = Due.playing("g=gat();s=saw(700000);o=mul(g,s);", false);
        x.voices(4);
        for (int v = 0; v < 4; v++) {
            x.note(v, 1);
        }
        x.off(2);
        x.run(1);
        x.off(1);
        x.run(17);
        return x;
    }

    private static PatchVoices behindRunOfNone() {
        PatchVoices x = playing(3);
        x.run(0);
        return x;
    }

    private void listTextCalls() {
        long good = Due.packed("b=gat();");
        for (int n : new int[] {0, 9, -1, MIN, MAX}) {
            refused.put("type of " + n, x -> x.type(good, n));
        }
        for (int code : new int[] {0, 31, 127, 255}) {
            refused.put("type of code " + code, x -> x.type(code, 1));
            refused.put("type of " + code + " first", x -> x.type((long) code << 56 | 'a', 8));
            long last = Due.packed("b=gat()") << 8 | code;
            refused.put("type of " + code + " last", x -> x.type(last, 8));
        }
        refused.put("type of eight too many", x -> x.type(good, 8));
        refused.put("type of two too many", x -> x.type(good, 2));
        refused.put("type of one too many", x -> x.type('b', 1));
    }

    private void listProgramCalls() {
        for (int i : new int[] {-1, 48, MIN, MAX}) {
            refused.put("step(" + i + ", 0)", x -> x.step(i, 0));
            refused.put("step(" + i + ", 11)", x -> x.step(i, 11));
        }
        refused.put("the step behind the last", x -> x.step(x.steps(), 1));
        for (int what : new int[] {-1, 11, MIN, MAX}) {
            refused.put("step(0, " + what + ")", x -> x.step(0, what));
        }
    }

    private void listVoiceCalls() {
        for (int n : new int[] {0, 5, MIN, MAX}) {
            refused.put("voices(" + n + ")", x -> nothing(() -> x.voices(n)));
        }
        for (int strength : new int[] {0, 128, MIN, MAX}) {
            refused.put("note(7, " + strength + ")", x -> x.note(7, strength));
        }
        for (int v : new int[] {-1, 0, 1, 2, 3, 4, MIN, MAX}) {
            refused.put("off(" + v + ")", x -> nothing(() -> x.off(v)));
        }
        for (int v : new int[] {-1, 1, 2, 3, 4, MIN, MAX}) {
            refused.put("active(" + v + ")", x -> x.active(v) ? 1 : 0);
        }
        for (int k : new int[] {-1, 4, MIN, MAX}) {
            refused.put("knob(" + k + ", 9)", x -> nothing(() -> x.knob(k, 9)));
        }
    }

    private void listSampleCalls() {
        for (int n : new int[] {-1, 0, 1, 64, 65, MIN, MAX}) {
            refused.put("run(" + n + ")", x -> nothing(() -> x.run(n)));
        }
        for (int i : new int[] {-1, 0, 5, 6, 18, 64, MIN, MAX}) {
            refused.put("out(" + i + ")", x -> x.out(i));
        }
        for (int v : new int[] {-1, 0, 1, 2, 3, 4}) {
            for (int m : new int[] {-1, 0, 1, 2, 4, 8, 9, 10, 24}) {
                refused.put("tap(" + v + ", " + m + ")", x -> x.tap(v, m));
            }
        }
    }

    private void listAskingCalls() {
        asking.put("named()", x -> x.named());
        asking.put("steps()", x -> x.steps());
        asking.put("slots()", x -> x.slots());
        asking.put("step(0, 0)", x -> x.step(0, 0));
        asking.put("step(1, 3)", x -> x.step(1, 3));
        asking.put("active(0)", x -> x.active(0) ? 1 : 0);
        asking.put("active(1)", x -> x.active(1) ? 1 : 0);
        asking.put("out(0)", x -> x.out(0));
        asking.put("out(3)", x -> x.out(3));
        asking.put("tap(0, 0)", x -> x.tap(0, 0));
        asking.put("tap(0, 6)", x -> x.tap(0, 6));
    }

    private static long nothing(Runnable call) {
        call.run();
        return 0;
    }

    /** Whether a call was refused: it threw, or it was a type() that answered NONE. */
    private static boolean isRefused(String call, String answer) {
        return answer.endsWith("Exception") || call.startsWith("type") && answer.equals("-1");
    }

    private void refusedCallsChangeNothing() {
        Due.by("Calls that throw change nothing, but for compile() and its faults");
        List<String> never = new ArrayList<>(refused.keySet());
        for (String state : states.keySet()) {
            List<String> want = story(states.get(state).make(), true);
            for (String call : refused.keySet()) {
                PatchVoices x = states.get(state).make();
                String answer = Due.answer(x, refused.get(call));
                if (!isRefused(call, answer)) {
                    continue;
                }
                never.remove(call);
                Due.same(call + " again", Due.answer(x, refused.get(call)), answer);
                compare(state + ", then " + call, story(x, true), want);
            }
        }
        Due.same("calls that were never refused", never.toString(), "[]");
    }

    private void askingChangesNothing() {
        Due.by("Nothing is promised beyond the answers and state changes described above");
        for (String state : states.keySet()) {
            PatchVoices x = states.get(state).make();
            for (String call : asking.keySet()) {
                Due.same(state + ": " + call + " twice", Due.answer(x, asking.get(call)),
                        Due.answer(x, asking.get(call)));
            }
            compare(state + ", then all that asks", story(x, true),
                    story(states.get(state).make(), true));
        }
    }

    private void faultsChangeNothing() {
        Due.by("or, all staying as it was (but for named())");
        for (String state : states.keySet()) {
            for (String text : FAULTY) {
                PatchVoices one = states.get(state).make();
                PatchVoices other = states.get(state).make();
                one.erase();
                other.erase();
                Due.type(one, text);
                Due.type(other, text);
                // what it is to make of programs counts for the next compile() that makes one
                one.optimise(false);
                other.optimise(false);
                int fault = one.compile();
                Due.is("compile() of " + text, fault != 0, true);
                Due.is("compile() of " + text + " again", one.compile(), fault);
                compare(state + ", then compile() of " + text, story(one, false),
                        story(other, false));
            }
        }
    }

    private static void compare(String what, List<String> got, List<String> want) {
        Due.same(what + ": how many answers", got.size() + "", want.size() + "");
        for (int i = 0; i < Math.min(got.size(), want.size()); i++) {
            Due.same(what + ": answer " + i, got.get(i), want.get(i));
        }
    }

    /** All that a desk answers, what it sounds like when it goes on, and then its text. */
    private static List<String> story(PatchVoices x, boolean withNamed) {
        List<String> told = new ArrayList<>();
        if (withNamed) {
            tell(told, x, y -> y.named());
        }
        tellProgram(told, x);
        tellSound(told, x);
        goOn(told, x);
        tell(told, x, y -> y.type(';', 1));
        tell(told, x, y -> y.compile());
        tell(told, x, y -> y.named());
        tell(told, x, y -> y.steps());
        tell(told, x, y -> y.erase());
        Due.type(x, "a=noi();b=pit();");
        tell(told, x, y -> y.compile());
        // one step if it is optimising, else two
        tell(told, x, y -> y.steps());
        tellKnobs(told, x);
        return told;
    }

    private static void tell(List<String> told, PatchVoices x, Due.Call call) {
        told.add(Due.answer(x, call));
    }

    private static void tellProgram(List<String> told, PatchVoices x) {
        tell(told, x, y -> y.steps());
        tell(told, x, y -> y.slots());
        for (int i = 0; i <= x.steps(); i++) {
            int step = i;
            for (int what = 0; what <= 10; what++) {
                int asked = what;
                tell(told, x, y -> y.step(step, asked));
            }
        }
    }

    private static void tellSound(List<String> told, PatchVoices x) {
        for (int v = 0; v < 4; v++) {
            int voice = v;
            tell(told, x, y -> y.active(voice) ? 1 : 0);
            for (int m = 0; m <= 10; m++) {
                int module = m;
                tell(told, x, y -> y.tap(voice, module));
            }
        }
        for (int i = 0; i <= 18; i++) {
            int sample = i;
            tell(told, x, y -> y.out(sample));
        }
    }

    private static void tellKnobs(List<String> told, PatchVoices x) {
        x.optimise(false);
        tell(told, x, y -> Due.compile(y, "a=kno(0);b=kno(1);c=kno(2);d=kno(3);"));
        tell(told, x, y -> y.note(1, 1));
        tell(told, x, y -> nothing(() -> y.run(1)));
        for (int k = 0; k < 4; k++) {
            int knob = k;
            tell(told, x, y -> y.tap(0, knob));
        }
    }

    private static void goOn(List<String> told, PatchVoices x) {
        tell(told, x, y -> nothing(() -> y.run(1)));
        tellSound(told, x);
        for (int v = 0; v < 4; v++) {
            int voice = v;
            tell(told, x, y -> nothing(() -> y.off(voice)));
        }
        tell(told, x, y -> y.note(8888888, 88));
        tell(told, x, y -> nothing(() -> y.run(8)));
        tell(told, x, y -> y.out(7));
        for (int i = 0; i < 5; i++) {
            tell(told, x, y -> y.note(99999999, 99));
        }
        tell(told, x, y -> nothing(() -> y.run(8)));
        tellSound(told, x);
    }
}
