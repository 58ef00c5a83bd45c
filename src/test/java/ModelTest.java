import java.util.Random;

/** Runs of calls, drawn with fixed seeds: program and model have to answer the same. */
public final class ModelTest {
    private static final int OBJECTS = 1000;
    private static final int CALLS = 512;
    private static final String[] WORDS =
            "add sub mul mix lim cmp sel kno pit gat vel saw sqr tri bow noi env low del hld"
                    .split(" ");
    private static final String INPUTS = "22233231000111104322";

    private final Random random;
    private final PatchVoices program = new PatchVoices();
    private final Model model = new Model();
    private int calls = 0;

    private ModelTest(long seed) {
        random = new Random(seed);
    }

    public static void main(String[] args) {
        int compiled = 0;
        for (int seed = 0; seed < OBJECTS; seed++) {
            ModelTest test = new ModelTest(seed);
            while (test.calls < CALLS) {
                compiled += test.writePatch(seed);
                test.play(seed);
            }
        }
        Due.is("enough patches without faults were drawn", compiled > OBJECTS, true);
        Due.end("ModelTest");
    }

    private int pick(int... some) {
        return some[random.nextInt(some.length)];
    }

    private void same(int seed, String call, Asked ofProgram, Asked ofModel) {
        if (calls == CALLS) {
            return;
        }
        calls++;
        String what = "seed " + seed + ", call " + calls + ": " + call;
        long want = 0;
        RuntimeException thrown = null;
        try {
            want = ofModel.ask();
        } catch (RuntimeException e) {
            thrown = e;
        }
        if (thrown == null) {
            Due.is(what, ofProgram.ask(), want);
        } else {
            Due.thrown(what, thrown.getClass(), ofProgram::ask);
        }
    }

    private interface Asked {
        long ask();
    }

    private int writePatch(int seed) {
        same(seed, "erase()", program::erase, model::erase);
        String text = random.nextInt(8) == 0 ? spoilt(patch()) : patch();
        for (int at = 0; at < text.length();) {
            int n = Math.min(text.length() - at, pick(8, 8, 8, 8, 8, 5, 1));
            long part = Due.packed(text.substring(at, at + n));
            same(seed, "type of " + text, () -> program.type(part, n), () -> model.type(part, n));
            at += n;
        }
        boolean on = random.nextBoolean();
        same(seed, "optimise(" + on + ")", () -> nothing(() -> program.optimise(on)),
                () -> nothing(() -> model.optimise(on)));
        int[] answer = new int[1];
        same(seed, "compile() of " + text, () -> answer[0] = program.compile(), model::compile);
        same(seed, "named() of " + text, program::named, model::named);
        lookAtSteps(seed);
        return answer[0] == 0 ? 1 : 0;
    }

    private void lookAtSteps(int seed) {
        same(seed, "steps()", program::steps, model::steps);
        same(seed, "slots()", program::slots, model::slots);
        for (int looks = pick(5, 20, 120); looks > 0 && model.steps() > 0; looks--) {
            int steps = model.steps();
            int i = random.nextInt(20) == 0 ? pick(-1, steps) : random.nextInt(steps);
            int what = random.nextInt(20) == 0 ? pick(-1, 11) : random.nextInt(11);
            same(seed, "step(" + i + ", " + what + ")",
                    () -> program.step(i, what), () -> model.step(i, what));
        }
    }

    private String patch() {
        int modules = 1 + random.nextInt(pick(4, 12, 22));
        boolean sound = random.nextInt(4) != 0;
        StringBuilder text = new StringBuilder();
        for (int m = 0; m < modules; m++) {
            String statement = statement(m, modules, sound);
            if (text.length() + statement.length() > 300) {
                break;
            }
            text.append(statement);
        }
        return text.toString();
    }

    private String statement(int m, int modules, boolean sound) {
        int kind = random.nextInt(3) == 0 ? pick(0, 2, 8, 9, 18, 18) : random.nextInt(20);
        if (m == modules - 1 && random.nextInt(3) != 0) {
            kind = pick(0, 1, 2, 3, 6, 16, 17);
        }
        int inputs = INPUTS.charAt(kind) - '0';
        if (!sound && random.nextInt(12) == 0) {
            inputs = random.nextInt(5);
        }
        StringBuilder text = new StringBuilder();
        text.append(name(m)).append(blanks()).append('=').append(WORDS[kind]).append('(');
        for (int j = 0; j < inputs; j++) {
            text.append(j == 0 ? "" : ",").append(blanks());
            boolean forth = !sound && random.nextInt(6) == 0 || kind == 18;
            if (sound && kind == 7 || kind == 18 && j == 1 && random.nextInt(40) != 0) {
                text.append(kind == 7 ? random.nextInt(4) : 1 + random.nextInt(pick(4, 30, 64)));
            } else if (random.nextInt(4) == 0 || m == 0 && !forth) {
                text.append(number());
            } else {
                text.append(name(source(m, forth ? modules : m)));
            }
        }
        return text.append(')').append(blanks()).append(';').toString();
    }

    /** Often one shortly before, so that the output needs many modules. */
    private int source(int m, int modules) {
        boolean near = m > 0 && random.nextInt(4) != 0;
        return near ? m - 1 - random.nextInt(Math.min(m, 3)) : random.nextInt(modules);
    }

    /** Mostly apart from one another; sometimes one that another module has. */
    private String name(int m) {
        int one = random.nextInt(150) == 0 ? random.nextInt(30) : m;
        return one < 3 ? "abc".repeat(2).substring(one, one + 2) : "" + (char) ('a' + one % 26);
    }

    private String blanks() {
        return random.nextInt(10) == 0 ? " " : "";
    }

    private int number() {
        int wide = random.nextInt(1999999999) - 999999999;
        return pick(wide, wide >> random.nextInt(30), 0, 1, 65536, 32768, -1, 70000, 1, 0);
    }

    private String spoilt(String text) {
        int at = random.nextInt(text.length());
        String instead = random.nextInt(3) == 0 ? ""
                : "" + "ab (),;=-019zA".charAt(random.nextInt(14));
        return text.substring(0, at) + instead + text.substring(at + random.nextInt(2));
    }

    private void play(int seed) {
        int most = calls + pick(5, 40, 200);
        while (calls < Math.min(most, CALLS)) {
            playOne(seed, random.nextInt(40));
        }
    }

    private void playOne(int seed, int drawn) {
        int a = random.nextInt(6) - 1;
        int b = pick(random.nextInt(), random.nextInt() >> random.nextInt(32), 0, 1, 65536);
        if (drawn < 5) {
            int strength = pick(1, 64, 127, random.nextInt(130) - 1);
            same(seed, "note", () -> program.note(b, strength), () -> model.note(b, strength));
        } else if (drawn < 9) {
            same(seed, "off(" + a + ")", () -> nothing(() -> program.off(a)),
                    () -> nothing(() -> model.off(a)));
        } else if (drawn < 12) {
            same(seed, "knob", () -> nothing(() -> program.knob(a, b)),
                    () -> nothing(() -> model.knob(a, b)));
        } else if (drawn < 20) {
            int n = pick(1, 2, 3, 16, 20, 64, random.nextInt(68) - 1);
            same(seed, "run(" + n + ")", () -> nothing(() -> program.run(n)),
                    () -> nothing(() -> model.run(n)));
        } else if (drawn < 26) {
            int i = random.nextInt(66) - 1 >> random.nextInt(6);
            same(seed, "out(" + i + ")", () -> program.out(i), () -> model.out(i));
        } else if (drawn < 34) {
            int module = random.nextInt(pick(3, 26)) - (random.nextInt(20) == 0 ? 1 : 0);
            int voice = random.nextInt(3) == 0 ? a : Math.max(0, a - 2);
            same(seed, "tap(" + voice + ", " + module + ")",
                    () -> program.tap(voice, module), () -> model.tap(voice, module));
        } else if (drawn < 38) {
            same(seed, "active(" + a + ")", () -> program.active(a) ? 1 : 0,
                    () -> model.active(a) ? 1 : 0);
        } else if (random.nextInt(3) == 0) {
            same(seed, "reset()", () -> nothing(program::reset), () -> nothing(model::reset));
        } else if (random.nextInt(2) == 0) {
            same(seed, "voices(" + a + ")", () -> nothing(() -> program.voices(a)),
                    () -> nothing(() -> model.voices(a)));
        }
    }

    private static long nothing(Runnable call) {
        call.run();
        return 0;
    }
}
