/** The kinds of modules, by their values in samples (part of promises 15 and 17). */
public final class KindsTest {
    private static final int MAX = Integer.MAX_VALUE;
    private static final int MIN = Integer.MIN_VALUE;

    public static void main(String[] args) {
        plainKinds();
        voiceKinds();
        waves();
        noise();
        envelopes();
        envelopesWithOddNumbers();
        lows();
        dels();
        helds();
        Due.end("KindsTest");
    }

    /** The value of a plain kind of knobs, and of numbers alone, optimised, where they fit. */
    private static void plain(String word, int want, int... inputs) {
        StringBuilder text = new StringBuilder("x=kno(0);y=kno(1);z=kno(2);o=").append(word);
        String cords = "x,y,z".substring(0, 2 * inputs.length - 1);
        PatchVoices x = Due.playing(text + "(" + cords + ");", false);
        x.note(0, 1);
        for (int k = 0; k < inputs.length; k++) {
            x.knob(k, inputs[k]);
        }
        x.run(1);
        Due.is(word + java.util.Arrays.toString(inputs), x.tap(0, 3), want);
        folded(word, want, inputs);
    }

    private static void folded(String word, int want, int... inputs) {
        StringBuilder text = new StringBuilder("o=").append(word);
        for (int k = 0; k < inputs.length; k++) {
            if (inputs[k] > 999999999 || inputs[k] < -999999999) {
                return;
            }
            text.append(k == 0 ? '(' : ',').append(inputs[k]);
        }
        PatchVoices x = Due.playing(text + ");q=saw(o);", true);
        Due.is(text + " as a number", x.step(0, 7), want);
    }

    private static void plainKinds() {
        plain("add", 5, 2, 3);
        plain("add", MAX, MAX, 1);
        plain("add", MIN, MIN, -1);
        plain("add", -1, MIN, MAX);
        plain("sub", -1, 2, 3);
        plain("sub", MAX, 0, MIN);
        plain("sub", MIN, MIN, 1);
        plain("sub", MIN, -2, MAX);
        plain("mul", 6, 2 * 65536, 3);
        plain("mul", -1, -1, 1);
        plain("mul", 0, 1, 65535);
        plain("mul", MAX, MIN, MIN);
        plain("mul", MIN, MIN, MAX);
        plain("mul", MAX, 999999999, 999999999);
        plain("mix", 10, 10, 20, 0);
        plain("mix", 20, 10, 20, 65536);
        plain("mix", 15, 10, 20, 32768);
        plain("mix", 9, 10, 9, 1);
        plain("mix", MAX, MIN, MAX, MAX);
        plain("mix", MIN, MIN, MAX, MIN);
        plain("mix", MAX, MAX, MIN, MIN);
        plain("mix", 0, 65536, 0, 65536);
        plain("lim", 5, 5, 1, 9);
        plain("lim", 1, 0, 1, 9);
        plain("lim", 9, 10, 1, 9);
        plain("lim", 9, 5, 9, 1);
        plain("lim", 1, 9, 9, 1);
        plain("lim", 1, 10, 9, 1);
        plain("cmp", 65536, 2, 1);
        plain("cmp", 0, 1, 1);
        plain("cmp", 0, MIN, MAX);
        plain("cmp", 65536, MAX, MIN);
        plain("sel", 7, 1, 7, 8);
        plain("sel", 8, 0, 7, 8);
        plain("sel", 8, -1, 7, 8);
        plain("sel", 7, MAX, 7, 8);
        plain("sel", 8, MIN, 7, 8);
    }

    private static void voiceKinds() {
        PatchVoices x = Due.playing("a=kno(2);b=pit();c=gat();d=vel();", false);
        x.knob(2, MIN);
        x.note(MAX, 127);
        x.run(1);
        Due.is("kno", x.tap(0, 0), MIN);
        Due.is("pit", x.tap(0, 1), MAX);
        Due.is("gat on", x.tap(0, 2), 65536);
        Due.is("vel", x.tap(0, 3), 512 * 127);
        x.off(0);
        x.knob(2, 4);
        x.knob(1, 9);
        Due.is("a tap is of the latest sample", x.tap(0, 2), 65536);
        x.run(1);
        Due.is("gat off", x.tap(0, 2), 0);
        Due.is("kno again", x.tap(0, 0), 4);
        Due.is("pit stays", x.tap(0, 1), MAX);
    }

    /** The samples of a wave whose phase goes by x each time. */
    private static void wave(String word, int x, int... want) {
        PatchVoices p = Due.playing("k=kno(0);o=" + word + "(k);", false);
        p.knob(0, x);
        p.note(0, 1);
        for (int i = 0; i < want.length; i++) {
            p.run(1);
            Due.is(word + " of " + x + " at " + i, p.tap(0, 1), want[i]);
        }
    }

    private static void waves() {
        int quarter = 1 << 30;
        wave("saw", quarter, 16384, -32768, -16384, 0, 16384);
        wave("sqr", quarter, 32767, -32767, -32767, 32767, 32767);
        wave("tri", quarter, 0, -32768, 0, 32768, 0);
        wave("bow", quarter, 32768, 0, -32768, 0, 32768);
        wave("saw", -1, -1, -1);
        wave("saw", 65535, 0, 1, 2);
        wave("sqr", -1, -32767);
        wave("sqr", 0, 32767);
        wave("tri", 65536, 32766, 32764);
        wave("tri", -65536, 32766, 32764);
        wave("tri", MAX, -32766, 32766);
        wave("bow", 65536, 3, 7, 11);
        wave("bow", -65536, -3, -7, -11);
        wave("bow", MAX, 3, -3);
        wave("saw", MIN, -32768, 0);
    }

    private static void noise() {
        PatchVoices x = Due.playing("n=noi();", false);
        x.note(0, 1);
        int bits = 1;
        for (int i = 0; i < 40; i++) {
            int out = bits & 1;
            bits >>>= 1;
            bits = out == 1 ? bits ^ 0xB4BCD35C : bits;
            Due.is("noi at " + i, Due.samples(x, 1)[0], bits >> 16);
        }
        x.note(0, 1);
        Due.all("noi as at first", Due.samples(x, 2), -19268, 0xB4BCD35C >>> 17);
    }

    /** The level of an envelope under the gate, so that neither output bounds cut it. */
    private static int[] levels(PatchVoices x, int module, int n) {
        int[] levels = new int[n];
        for (int i = 0; i < n; i++) {
            x.run(1);
            levels[i] = x.tap(0, module);
        }
        return levels;
    }

    private static void envelopes() {
        PatchVoices x = Due.playing("k=kno(0);e=env(k,30000,10000,20000);", false);
        x.note(0, 1);
        Due.all("resting", levels(x, 1, 2), 0, 0);
        x.knob(0, 1);
        Due.all("rise and fall", levels(x, 1, 8),
                30000, 60000, 65536, 55536, 45536, 35536, 32768, 32768);
        x.knob(0, 0);
        Due.all("release", levels(x, 1, 1), 12768);
        x.knob(0, 5);
        Due.all("rise from where it is", levels(x, 1, 3), 42768, 65536, 55536);
        x.knob(0, -1);
        Due.all("release while it falls", levels(x, 1, 4), 35536, 15536, 0, 0);
        x.knob(0, 1);
        Due.all("rise again", levels(x, 1, 1), 30000);
        x.knob(0, 0);
        Due.all("release while it rises", levels(x, 1, 3), 10000, 0, 0);
        x.knob(0, 1);
        levels(x, 1, 2);
        x.note(0, 1);
        Due.all("a note makes it as at first", levels(x, 1, 1), 30000);
    }

    private static void envelopesWithOddNumbers() {
        PatchVoices x = Due.playing("k=kno(0);a=kno(1);d=kno(2);r=kno(3);e=env(k,a,d,r);", false);
        x.note(0, 1);
        x.knob(0, 1);
        x.knob(1, 65536);
        x.knob(2, 32768);
        Due.all("edges at once", levels(x, 4, 3), 65536, 32768, 32768);
        x.knob(0, 0);
        x.knob(3, 32768);
        Due.all("an exact end", levels(x, 4, 1), 0);
        x.knob(0, 1);
        Due.all("it rises from stage 0", levels(x, 4, 1), 65536);
        x.knob(2, -1);
        Due.all("d below 0", levels(x, 4, 2), 65536, 65536);
        x.knob(2, MAX);
        Due.all("d great", levels(x, 4, 1), 32768);
        x.knob(0, 0);
        x.knob(3, MIN);
        Due.all("r below 0", levels(x, 4, 2), 32768, 32768);
        x.knob(0, 1);
        x.knob(1, MIN);
        Due.all("a below 0", levels(x, 4, 2), 32768, 32768);
        x.knob(1, 32767);
        Due.all("a short of the top", levels(x, 4, 1), 65535);
        x.knob(1, MAX);
        Due.all("a great", levels(x, 4, 1), 65536);
        x.knob(0, 0);
        x.knob(3, MAX);
        Due.all("r great", levels(x, 4, 1), 0);
        x.knob(0, 1);
        x.knob(1, 3);
        levels(x, 4, 1);
        x.knob(0, 0);
        x.knob(3, 2);
        Due.all("an odd end", levels(x, 4, 3), 1, 0, 0);
        x.knob(0, 1);
        x.knob(1, 65535);
        x.knob(2, 32767);
        Due.all("one short", levels(x, 4, 1), 65535);
        x.knob(1, 1);
        Due.all("one short of each edge", levels(x, 4, 4), 65536, 32769, 32768, 32768);
    }

    private static void lows() {
        PatchVoices x = Due.playing("k=kno(0);f=kno(1);q=kno(2);o=low(k,f,q);", false);
        x.note(0, 1);
        x.knob(0, 1000);
        x.knob(1, 32768);
        x.knob(2, 65536);
        // h, B, L: 1000 500 250; 250 625 562; -187 531 827; -358 352 1003
        Due.all("low", levels(x, 3, 4), 250, 562, 827, 1003);
        x.note(0, 1);
        x.knob(0, MAX);
        x.knob(1, 65536);
        x.knob(2, MIN);
        // h MAX, B MAX, L MAX; then h = 0 + 2^15 * MAX stopped, and all stay at MAX
        Due.all("low stopped", levels(x, 3, 2), MAX, MAX);
        x.knob(0, MIN);
        x.knob(2, MAX);
        // h MIN, B MAX + MIN = -1, L MAX - 1; then h and B are stopped at MIN, L MAX - 1 + MIN
        Due.all("low stopped below", levels(x, 3, 2), MAX - 1, -2);
    }

    private static void dels() {
        for (int n : new int[] {1, 2, 63, 64}) {
            PatchVoices x = Due.playing("p=saw(65536);d=del(p," + n + ");", false);
            x.note(0, 1);
            for (int t = 0; t < 130; t++) {
                int want = t < n ? 0 : t - n + 1;
                Due.is("del of " + n + " at " + t, Due.samples(x, 1)[0], want);
            }
            x.note(0, 1);
            Due.all("del as at first", Due.samples(x, 1), 0);
        }
        PatchVoices x = Due.playing("p=saw(65536);a=del(p,64);b=del(a,63);c=del(b,1);", false);
        x.note(0, 1);
        x.run(64);
        x.run(64);
        Due.all("three dels, one behind the other", Due.samples(x, 3), 1, 2, 3);
    }

    private static void helds() {
        PatchVoices x = Due.playing("x=kno(0);g=kno(1);h=hld(x,g);", false);
        x.knob(0, 5);
        x.knob(1, 1);
        x.note(0, 1);
        x.run(1);
        Due.is("the first sample takes", x.tap(0, 2), 5);
        int[][] rows = {
            {6, 1, 5}, {7, 0, 5}, {8, -1, 5}, {9, 3, 9}, {10, 4, 9}, {1, 0, 9}, {2, 1, 2}
        };
        for (int[] row : rows) {
            x.knob(0, row[0]);
            x.knob(1, row[1]);
            x.run(1);
            Due.is("hld of " + row[0] + " by " + row[1], x.tap(0, 2), row[2]);
        }
        x.knob(1, 0);
        x.note(0, 1);
        x.run(1);
        Due.is("at first 0", x.tap(0, 2), 0);
        x.knob(1, 1);
        x.run(1);
        x.note(0, 1);
        x.knob(0, 44);
        x.run(1);
        Due.is("a note forgets that g was above 0", x.tap(0, 2), 44);
    }
}
