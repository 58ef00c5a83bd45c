import java.nio.charset.StandardCharsets;

/** What the tests share: answers that are due, and how a text is typed. */
final class Due {
    private static int looked = 0;
    private static int wrong = 0;
    private static String sentence = "";

    /** A call whose answer counts as a number, a boolean as 1 or 0. */
    interface Call {
        long ask(PatchVoices x);
    }

    private Due() {}

    /** The sentence of the document that the answers from here on are due by. */
    static void by(String words) {
        sentence = words;
    }

    static void is(String what, long got, long want) {
        looked++;
        if (got != want) {
            tellWrong(what + " answered " + got + ", due is " + want);
        }
    }

    private static void tellWrong(String what) {
        wrong++;
        System.out.println(what + (sentence.isEmpty() ? "" : " by: " + sentence));
    }

    static void is(String what, boolean got, boolean want) {
        is(what, got ? 1 : 0, want ? 1 : 0);
    }

    static void all(String what, int[] got, int... want) {
        is(what + ": how many", got.length, want.length);
        for (int i = 0; i < Math.min(got.length, want.length); i++) {
            is(what + "[" + i + "]", got[i], want[i]);
        }
    }

    static void thrown(String what, Class<? extends RuntimeException> want, Runnable call) {
        looked++;
        String got = "nothing";
        try {
            call.run();
        } catch (RuntimeException e) {
            got = e.getClass().getName();
        }
        if (!got.equals(want.getName())) {
            tellWrong(what + " threw " + got + ", due is " + want.getName());
        }
    }

    static void same(String what, String got, String want) {
        looked++;
        if (!got.equals(want)) {
            tellWrong(what + " answered " + got + ", due is " + want);
        }
    }

    /** What a call answers or throws, as a text. */
    static String answer(PatchVoices x, Call call) {
        try {
            return Long.toString(call.ask(x));
        } catch (RuntimeException e) {
            return e.getClass().getSimpleName();
        }
    }

    /** The n characters of a text, the first one in the highest byte, as type() takes them. */
    static long packed(String characters) {
        long value = 0;
        for (byte b : characters.getBytes(StandardCharsets.ISO_8859_1)) {
            value = value << 8 | b & 0xFF;
        }
        return value;
    }

    static int type(PatchVoices x, String text) {
        int answer = PatchVoices.NONE;
        for (int at = 0; at < text.length(); at += 8) {
            String part = text.substring(at, Math.min(at + 8, text.length()));
            answer = x.type(packed(part), part.length());
        }
        return answer;
    }

    /** Erases, types and compiles. */
    static int compile(PatchVoices x, String text) {
        x.erase();
        type(x, text);
        return x.compile();
    }

    /** A new object with the program of a patch. */
    static PatchVoices playing(String text, boolean optimised) {
        PatchVoices x = new PatchVoices();
        x.optimise(optimised);
        is("compile() of " + text, compile(x, text), 0);
        return x;
    }

    static int[] samples(PatchVoices x, int n) {
        x.run(n);
        int[] made = new int[n];
        for (int i = 0; i < n; i++) {
            made[i] = x.out(i);
        }
        return made;
    }

    /** Ends the test; exit code 1 if one answer was not as due. */
    static void end(String test) {
        System.out.println(test + ": " + looked + " answers, " + wrong + " not as due");
        if (wrong != 0 || looked == 0) {
            System.exit(1);
        }
    }
}
