import java.math.BigInteger;
import java.util.Arrays;

/** The edges of the values of every kind, and of its memory (Terms; promises 15 and 17). */
public final class ValueEdgesTest {
    private static final int MAX = Integer.MAX_VALUE;
    private static final int MIN = Integer.MIN_VALUE;
    private static final int QUARTER = 1 << 30;

    public static void main(String[] args) {
        sums();
        differences();
        products();
        mixes();
        limits();
        comparisons();
        selections();
        whatAVoiceWasGiven();
        waves();
        phasesWrap();
        noise();
        envelopesRise();
        envelopesFall();
        envelopesEnd();
        envelopesTurn();
        envelopesOfNumbersBelowZero();
        lowsByHand();
        lowsAtEveryEdge();
        delsOfEveryLength();
        delsOfNumbersAndExtremes();
        delsSideBySide();
        helds();
        oneValueInASample();
        eachVoiceItsOwn();
        Due.end("ValueEdgesTest");
    }

    /** The value of a kind below 7: of knobs, and worked out of numbers when it is optimised. */
    private static void plain(String word, int want, int... inputs) {
        String what = word + Arrays.toString(inputs);
        String cords = "x,y,z".substring(0, 2 * inputs.length - 1);
        PatchVoices x = Due.playing("x=kno(0);y=kno(1);z=kno(2);o=" + word + "(" + cords + ");",
                false);
        for (int k = 0; k < inputs.length; k++) {
            x.knob(k, inputs[k]);
        }
        x.note(0, 1);
        x.run(1);
        Due.is(what, x.tap(0, 3), want);
        StringBuilder text = new StringBuilder();
        StringBuilder call = new StringBuilder("o=" + word);
        for (int k = 0; k < inputs.length; k++) {
            call.append(k == 0 ? '(' : ',').append(written(text, inputs[k], "xyz".charAt(k)));
        }
        PatchVoices y = Due.playing(text.toString() + call + ");q=saw(o);", true);
        Due.is(what + " of numbers: steps()", y.steps(), 1);
        Due.is(what + " of numbers", y.step(0, 7), want);
    }

    /** A number, or, where it has more than nine digits, a module that comes to it. */
    private static String written(StringBuilder text, int value, char name) {
        int most = 999999999;
        if (value <= most && value >= -most) {
            return Integer.toString(value);
        }
        int part = value > 0 ? most : -most;
        text.append(name).append("a=add(").append(part).append(',').append(part).append(");");
        text.append(name).append("=add(").append(name).append("a,").append(value - 2 * part);
        text.append(");");
        return "" + name;
    }

    private static void sums() {
        Due.by("0 add x y: x + y, stopped");
        plain("add", MAX - 1, MAX - 1, 0);
        plain("add", MAX, MAX - 1, 1);
        plain("add", MAX, MAX - 1, 2);
        plain("add", MAX, MAX, 0);
        plain("add", MAX, 1, MAX);
        plain("add", MAX, MAX, MAX);
        plain("add", MIN + 1, MIN + 1, 0);
        plain("add", MIN, MIN + 1, -1);
        plain("add", MIN, MIN + 1, -2);
        plain("add", MIN, 0, MIN);
        plain("add", MIN, MIN, -1);
        plain("add", MIN, MIN, MIN);
        plain("add", -1, MIN, MAX);
        plain("add", 0, 0, 0);
    }

    private static void differences() {
        Due.by("1 sub x y: x - y, stopped");
        plain("sub", MAX, MAX, 0);
        plain("sub", MAX, MAX, -1);
        plain("sub", MAX, MAX - 1, -1);
        plain("sub", MAX - 1, -2, MIN);
        plain("sub", MAX, -1, MIN);
        plain("sub", MAX, 0, MIN);
        plain("sub", MAX, MAX, MIN);
        plain("sub", MIN, MIN, 0);
        plain("sub", MIN, MIN, 1);
        plain("sub", MIN, MIN + 1, 1);
        plain("sub", MIN + 1, 0, MAX);
        plain("sub", MIN, -1, MAX);
        plain("sub", MIN, -2, MAX);
        plain("sub", MIN, MIN, MAX);
        plain("sub", 0, MIN, MIN);
        plain("sub", 0, MAX, MAX);
        plain("sub", -1, 2, 3);
    }

    private static void products() {
        Due.by("2 mul x y: x * y >> 16, stopped");
        plain("mul", MAX, 65536, MAX);
        plain("mul", MAX, 65537, MAX);
        plain("mul", MAX - 1, 131072, QUARTER - 1);
        plain("mul", MAX, 131072, QUARTER);
        plain("mul", MAX, -65536, MIN);
        plain("mul", MAX, MIN, MIN);
        plain("mul", MAX, MAX, MAX);
        plain("mul", MIN, 65536, MIN);
        plain("mul", MIN, 65537, MIN);
        plain("mul", MIN + 1, -65536, MAX);
        plain("mul", MIN, 131072, -QUARTER);
        plain("mul", MIN, 131072, -QUARTER - 1);
        plain("mul", MIN, MIN, MAX);
        Due.by("Numbers >> 16 are divided by 65536 and rounded down");
        plain("mul", 0, 1, 65535);
        plain("mul", 1, 1, 65536);
        plain("mul", 1, 1, 131071);
        plain("mul", 2, 1, 131072);
        plain("mul", -1, 1, -1);
        plain("mul", -1, 1, -65536);
        plain("mul", -2, 1, -65537);
        plain("mul", -2, 131072, -1);
        plain("mul", 0, -1, -1);
        plain("mul", 0, 0, MIN);
        plain("mul", -32768, 1, MIN);
        plain("mul", 32767, 1, MAX);
        plain("mul", -32768, -1, MAX);
        plain("mul", 32768, -1, MIN);
    }

    private static void mixes() {
        Due.by("3 mix x y k: x + ((y - x) * k >> 16), stopped");
        plain("mix", MAX, MIN, MAX, 65536);
        plain("mix", MAX, MIN, MAX, 65537);
        plain("mix", MAX - 65536, MIN, MAX, 65535);
        plain("mix", MIN, MAX, MIN, 65536);
        plain("mix", MIN, MAX, MIN, 65537);
        plain("mix", MIN + 65535, MAX, MIN, 65535);
        plain("mix", MIN, MIN, MAX, 0);
        plain("mix", MIN, MIN, MAX, -1);
        plain("mix", MAX, MAX, MIN, 0);
        plain("mix", MAX, MAX, MIN, -1);
        plain("mix", -1, MIN, MAX, 32768);
        plain("mix", -1, MAX, MIN, 32768);
        plain("mix", MAX, MIN, MAX, MAX);
        plain("mix", MIN, MIN, MAX, MIN);
        plain("mix", MIN, MAX, MIN, MAX);
        plain("mix", MAX, MAX, MIN, MIN);
        plain("mix", MAX, MAX, MAX, MIN);
        plain("mix", 0, 0, 1, 65535);
        plain("mix", 1, 0, 1, 65536);
        plain("mix", -1, 0, -1, 1);
        plain("mix", -1, 0, 1, -1);
        plain("mix", -2, 0, -1, 65537);
        plain("mix", 10, 10, 11, 32768);
        plain("mix", 10, 11, 10, 32768);
    }

    private static void limits() {
        Due.by("4 lim x a b: a if x is less than a, else b if x is greater than b, else x");
        plain("lim", 1, 0, 1, 9);
        plain("lim", 1, 1, 1, 9);
        plain("lim", 2, 2, 1, 9);
        plain("lim", 8, 8, 1, 9);
        plain("lim", 9, 9, 1, 9);
        plain("lim", 9, 10, 1, 9);
        plain("lim", 5, 4, 5, 5);
        plain("lim", 5, 5, 5, 5);
        plain("lim", 5, 6, 5, 5);
        // a above b: what is less than a becomes a, although that is greater than b
        plain("lim", 9, 0, 9, 1);
        plain("lim", 9, 8, 9, 1);
        plain("lim", 1, 9, 9, 1);
        plain("lim", 1, 10, 9, 1);
        plain("lim", MIN, MIN, MIN, MAX);
        plain("lim", MAX, MAX, MIN, MAX);
        plain("lim", MIN + 1, MIN, MIN + 1, MAX);
        plain("lim", MAX - 1, MAX, MIN, MAX - 1);
        plain("lim", MAX, MIN, MAX, MIN);
        plain("lim", MIN, MAX, MAX, MIN);
    }

    private static void comparisons() {
        Due.by("5 cmp x y: 65536 if x is greater than y, else 0");
        plain("cmp", 0, 0, 0);
        plain("cmp", 65536, 1, 0);
        plain("cmp", 0, 0, 1);
        plain("cmp", 0, -1, 0);
        plain("cmp", 65536, 0, -1);
        plain("cmp", 0, MAX, MAX);
        plain("cmp", 0, MIN, MIN);
        plain("cmp", 65536, MAX, MIN);
        plain("cmp", 0, MIN, MAX);
        plain("cmp", 65536, MAX, MAX - 1);
        plain("cmp", 0, MIN, MIN + 1);
    }

    private static void selections() {
        Due.by("6 sel c x y: x if c is above 0, else y");
        plain("sel", 7, 1, 7, 8);
        plain("sel", 8, 0, 7, 8);
        plain("sel", 8, -1, 7, 8);
        plain("sel", MIN, MAX, MIN, MAX);
        plain("sel", MAX, MIN, MIN, MAX);
    }

    private static void whatAVoiceWasGiven() {
        Due.by("7 kno k: knob k. 8 pit: the voice's pitch");
        for (int value : new int[] {MIN, -1, 0, 1, MAX}) {
            for (int k = 0; k < 4; k++) {
                PatchVoices x = Due.playing("a=kno(" + k + ");b=pit();", false);
                x.knob(k, value);
                x.note(value, 1);
                x.run(1);
                Due.is("kno", x.tap(0, 0), value);
                Due.is("pit", x.tap(0, 1), value);
            }
        }
        Due.by("9 gat: 65536 if its gate is on, else 0. 10 vel: 512 times its strength");
        for (int strength : new int[] {1, 2, 64, 126, 127}) {
            PatchVoices x = Due.playing("a=gat();b=vel();", false);
            x.note(0, strength);
            x.run(1);
            Due.is("gat on", x.tap(0, 0), 65536);
            Due.is("vel", x.tap(0, 1), 512 * strength);
            x.off(0);
            x.run(1);
            Due.is("gat off", x.tap(0, 0), 0);
            Due.is("vel stays", x.tap(0, 1), 512 * strength);
        }
    }

    private static void waves() {
        Due.by("let p be it >> 16: p; 32767 if p is 0 or more, else -32767; 32768 less twice the"
                + " amount of p; p * (32768 less the amount of p) / 8192");
        wave(0, 0, 32767, 32768, 0);
        wave(65535, 0, 32767, 32768, 0);
        wave(65536, 1, 32767, 32766, 3);
        wave(131072, 2, 32767, 32764, 7);
        wave(-1, -1, -32767, 32766, -3);
        wave(-65536, -1, -32767, 32766, -3);
        wave(-65537, -2, -32767, 32764, -7);
        wave(QUARTER - 1, 16383, 32767, 2, 32767);
        wave(QUARTER, 16384, 32767, 0, 32768);
        wave(-QUARTER, -16384, -32767, 0, -32768);
        wave(-QUARTER - 1, -16385, -32767, -2, -32767);
        wave(MAX - 65536, 32766, 32767, -32764, 7);
        wave(MAX - 65535, 32767, 32767, -32766, 3);
        wave(MAX, 32767, 32767, -32766, 3);
        wave(MIN, -32768, -32767, -32768, 0);
        wave(MIN + 65535, -32768, -32767, -32768, 0);
        wave(MIN + 65536, -32767, -32767, -32766, -3);
    }

    private static final String WAVES = "k=kno(0);a=saw(k);b=sqr(k);c=tri(k);d=bow(k);";

    /** The four waves at a phase, which the first sample comes to. */
    private static void wave(int phase, int... want) {
        PatchVoices x = Due.playing(WAVES, false);
        x.knob(0, phase);
        x.note(0, 1);
        x.run(1);
        for (int m = 0; m < 4; m++) {
            Due.is("wave " + m + " at " + phase, x.tap(0, m + 1), want[m]);
        }
    }

    private static void phasesWrap() {
        Due.by("the memory is a phase, at first 0, which x is added to (wrapping)");
        saws(new int[] {MAX, 1, -1}, 32767, -32768, 32767);
        saws(new int[] {MIN, -1, 1}, -32768, 32767, -32768);
        saws(new int[] {MIN, MIN, 0}, -32768, 0, 0);
        saws(new int[] {MAX, MAX, MAX}, 32767, -1, 32767);
        saws(new int[] {65535, 1, -1}, 0, 1, 0);
        saws(new int[] {0, -1, 1}, 0, -1, 0);
    }

    private static void saws(int[] added, int... want) {
        PatchVoices x = Due.playing(WAVES, false);
        x.note(0, 1);
        for (int i = 0; i < added.length; i++) {
            x.knob(0, added[i]);
            x.run(1);
            Due.is("saw " + Arrays.toString(added) + " at " + i, x.tap(0, 1), want[i]);
            int amount = Math.abs(want[i]);
            Due.is("sqr", x.tap(0, 2), want[i] >= 0 ? 32767 : -32767);
            Due.is("tri", x.tap(0, 3), 32768 - 2 * amount);
            Due.is("bow", x.tap(0, 4), want[i] * (32768 - amount) / 8192);
        }
    }

    private static void noise() {
        Due.by("15 noi: the memory is 32 bits, at first 1; they go one to the right (0 comes in),"
                + " and if the one that went out was 1, 0xB4BCD35C is xored; it >> 16 (as an int)");
        PatchVoices x = Due.playing("n=noi();", false);
        x.note(0, 1);
        // 0xB4BCD35C, 0x5A5E69AE, 0x2D2F34D7, 0x16979A6B ^ 0xB4BCD35C
        Due.all("noi", Due.samples(x, 4), -19268, 23134, 11567, -24021);
        long bits = 0xA22B4937L;
        for (int i = 4; i < 200; i++) {
            bits = bits >> 1 ^ (bits % 2 == 1 ? 0xB4BCD35CL : 0);
            Due.is("noi at " + i, Due.samples(x, 1)[0], (int) bits >> 16);
        }
    }

    /** Rows of g, a, d, r, and the level that is due then. */
    private static void levels(String what, int[]... rows) {
        PatchVoices x = Due.playing("g=kno(0);a=kno(1);d=kno(2);r=kno(3);e=env(g,a,d,r);", false);
        x.note(0, 1);
        for (int i = 0; i < rows.length; i++) {
            for (int k = 0; k < 4; k++) {
                x.knob(k, rows[i][k]);
            }
            x.run(1);
            Due.is(what + ", sample " + i, x.tap(0, 4), rows[i][4]);
        }
    }

    private static int[] row(int... whole) {
        return whole;
    }

    private static void envelopesRise() {
        Due.by("in stage 1 the level grows by a, but if it would be 65536 or more it is that, and"
                + " the stage 2");
        levels("one short", row(1, 65535, 9, 9, 65535), row(1, 0, 9, 9, 65535),
                row(1, 1, 9, 9, 65536), row(1, 1, 9, 9, 65527));
        levels("just so", row(1, 65536, 9, 9, 65536), row(1, 65536, 9, 9, 65527));
        levels("one more", row(1, 65537, 9, 9, 65536), row(1, 65537, 9, 9, 65527));
        levels("far more", row(1, 1, 9, 9, 1), row(1, MAX, 9, 9, 65536), row(1, MAX, 9, 9, 65527));
        levels("by nothing", row(1, 0, 9, 9, 0), row(1, 0, 9, 9, 0), row(1, 5, 9, 9, 5));
        // it kept its height through stage 4, so that to grow by nothing is enough
        levels("at the top already", row(1, 65536, 0, 0, 65536), row(0, 0, 0, 0, 65536),
                row(1, 0, 9, 0, 65536), row(1, 0, 9, 0, 65527));
    }

    private static void envelopesFall() {
        Due.by("in 2 it falls by d, but if it would be 32768 or less it is that, and the stage 3");
        int[] top = row(1, 65536, 0, 0, 65536);
        levels("one short", top, row(1, 9, 32767, 9, 32769), row(1, 9, 0, 9, 32769),
                row(1, 9, 1, 9, 32768), row(1, 9, 1, 9, 32768));
        levels("just so", top, row(1, 9, 32768, 9, 32768), row(1, 9, 5, 9, 32768));
        levels("one more", top, row(1, 9, 32769, 9, 32768), row(1, 9, 5, 9, 32768));
        levels("far more", top, row(1, 9, MAX, 9, 32768), row(1, 9, MAX, 9, 32768));
        levels("by nothing", top, row(1, 9, 0, 9, 65536), row(1, 9, 0, 9, 65536),
                row(1, 9, 7, 9, 65529));
        levels("stage 3 stays", top, row(1, 9, 32768, 9, 32768), row(1, 65536, 1, 1, 32768),
                row(MAX, 65536, 65536, 65536, 32768));
    }

    private static void envelopesEnd() {
        Due.by("in 4 it falls by r, but if it would be 0 or less it is 0, and the stage 0");
        int[] top = row(1, 65536, 0, 0, 65536);
        int[] half = row(1, 0, 32768, 0, 32768);
        levels("one short", top, half, row(0, 9, 9, 32767, 1), row(0, 9, 9, 0, 1),
                row(0, 9, 9, 1, 0), row(0, 9, 9, 1, 0), row(1, 5, 9, 9, 5));
        levels("just so", top, half, row(0, 9, 9, 32768, 0), row(0, 9, 9, 1, 0),
                row(1, 5, 9, 9, 5));
        levels("one more", top, half, row(0, 9, 9, 32769, 0), row(0, 9, 9, 1, 0),
                row(1, 5, 9, 9, 5));
        levels("far more", top, half, row(0, 9, 9, MAX, 0), row(0, 9, 9, MAX, 0),
                row(1, 5, 9, 9, 5));
        levels("from the top", top, row(0, 9, 9, 65535, 1), row(0, 9, 9, MAX, 0));
        levels("by nothing", top, half, row(0, 9, 9, 0, 32768), row(0, 9, 9, 0, 32768));
    }

    private static void envelopesTurn() {
        Due.by("If g is above 0 and the stage 0 or 4, it becomes 1; if g is not above 0 and the"
                + " stage 1, 2 or 3, it becomes 4");
        int[] top = row(1, 65536, 0, 0, 65536);
        int[] half = row(1, 0, 32768, 0, 32768);
        for (int off : new int[] {0, -1, MIN}) {
            levels("stage 0 stays", row(off, 9, 9, 9, 0), row(off, 9, 9, 9, 0));
            levels("1 to 4", row(1, 100, 9, 9, 100), row(off, 9, 9, 30, 70));
            levels("2 to 4", top, row(off, 9, 9, 30, 65506));
            levels("3 to 4", top, half, row(off, 9, 9, 30, 32738), row(off, 9, 9, 30, 32708));
        }
        for (int on : new int[] {1, MAX}) {
            levels("0 to 1", row(0, 9, 9, 9, 0), row(on, 100, 9, 9, 100));
            levels("1 stays", row(1, 7, 9, 9, 7), row(on, 100, 9, 9, 107));
            levels("2 stays", top, row(on, 100, 9, 3, 65527));
            levels("3 stays", top, half, row(on, 100, 9, 3, 32768));
            levels("4 to 1", top, half, row(0, 9, 9, 30, 32738), row(on, 100, 9, 3, 32838));
        }
        levels("1 to 4 at 0", row(1, 0, 9, 9, 0), row(0, 0, 9, 0, 0), row(1, 3, 9, 9, 3));
    }

    private static void envelopesOfNumbersBelowZero() {
        Due.by("a, d and r below 0 counting as 0");
        int[] top = row(1, 65536, -1, -1, 65536);
        for (int below : new int[] {-1, -65536, MIN}) {
            levels("a", row(1, below, 9, 9, 0), row(1, 3, 9, 9, 3), row(1, below, 9, 9, 3));
            levels("d", top, row(1, 9, below, 9, 65536), row(1, 9, 1, 9, 65535),
                    row(1, 9, below, 9, 65535));
            levels("r", top, row(0, 9, 9, below, 65536), row(0, 9, 9, 1, 65535),
                    row(0, 9, 9, below, 65535));
        }
    }

    /** Rows of x, f, q, and the L that is due then. */
    private static void lows(String what, int[]... rows) {
        PatchVoices p = Due.playing("x=kno(0);f=kno(1);q=kno(2);o=low(x,f,q);", false);
        p.note(0, 1);
        for (int i = 0; i < rows.length; i++) {
            for (int k = 0; k < 3; k++) {
                p.knob(k, rows[i][k]);
            }
            p.run(1);
            Due.is(what + ", sample " + i, p.tap(0, 3), rows[i][3]);
        }
    }

    private static void lowsByHand() {
        Due.by("17 low x f q: two numbers L and B, at first 0; h is x - L - (q * B >> 16), stopped;"
                + " B becomes B + (f * h >> 16), stopped; then L becomes L + (f * B >> 16),"
                + " stopped; L");
        // h 1000 B 500 L 250; h 1000 - 250 - 500 B 625 L 562; h -187 B 531 L 827
        lows("ordinary", row(1000, 32768, 65536, 250), row(1000, 32768, 65536, 562),
                row(1000, 32768, 65536, 827));
        lows("rounded down", row(-1, 1, 0, -1), row(-1, 1, 0, -2));
        lows("rounded down", row(1, 65535, 0, 0), row(1, 65536, 0, 1));
        int[] high = row(MAX, 65536, 0, MAX);
        int[] deep = row(MIN, 65536, 0, MIN);
        lows("B and L above", row(MAX, 65537, 0, MAX), row(0, 0, 0, MAX));
        lows("B and L below", row(MIN, 65537, 0, MIN), row(0, 0, 0, MIN));
        // h stops at MIN: B MAX + MIN, L MAX - 1; else B would be MIN
        lows("h below", high, row(MIN, 65536, 0, MAX - 1));
        // h stops at MAX: B MIN + MAX, L MIN - 1, stopped; else L would be -1
        lows("h above", deep, row(MAX, 65536, 0, MIN));
        // h is MAX - MAX + MAX: B and L stop; else B would wrap to -2
        lows("B above", high, row(MAX, 65536, -65536, MAX), row(0, 65536, 0, MAX));
        lows("B below", deep, row(MIN, 65536, -65536, MIN), row(0, 65536, 0, MIN));
        // with f 0 nothing moves
        lows("f of 0", high, row(5, 0, MIN, MAX), row(MIN, 0, MAX, MAX));
    }

    private static void lowsAtEveryEdge() {
        int[] edges = {MIN, -65537, -65536, -1, 0, 1, 65535, 65536, 65537, MAX};
        for (int first : edges) {
            for (int f : edges) {
                for (int q : edges) {
                    lowsOf(f, q, first, MAX, MIN, 0, first, -1);
                }
            }
        }
    }

    private static void lowsOf(int f, int q, int... inputs) {
        BigInteger low = BigInteger.ZERO;
        BigInteger band = BigInteger.ZERO;
        int[][] rows = new int[inputs.length][];
        for (int i = 0; i < inputs.length; i++) {
            BigInteger h = stopped(big(inputs[i]).subtract(low)
                    .subtract(big(q).multiply(band).shiftRight(16)));
            band = stopped(band.add(big(f).multiply(h).shiftRight(16)));
            low = stopped(low.add(big(f).multiply(band).shiftRight(16)));
            rows[i] = row(inputs[i], f, q, low.intValueExact());
        }
        lows("f " + f + ", q " + q + ", x " + Arrays.toString(inputs), rows);
    }

    private static BigInteger big(long value) {
        return BigInteger.valueOf(value);
    }

    private static BigInteger stopped(BigInteger exact) {
        return exact.max(big(MIN)).min(big(MAX));
    }

    private static void delsOfEveryLength() {
        Due.by("18 del x n: what x was n samples ago; 0 before");
        for (int n = 1; n <= 64; n++) {
            PatchVoices x = Due.playing("s=saw(65536);d=del(s," + n + ");", false);
            x.note(0, 1);
            int[] first = Due.samples(x, 64);
            int[] second = Due.samples(x, 64);
            int[] third = Due.samples(x, 10);
            for (int t = 0; t < 138; t++) {
                int got = t < 64 ? first[t] : t < 128 ? second[t - 64] : third[t - 128];
                Due.is("del of " + n + " at " + t, got, t < n ? 0 : t - n + 1);
            }
        }
    }

    private static void delsOfNumbersAndExtremes() {
        for (boolean optimised : new boolean[] {false, true}) {
            PatchVoices x = Due.playing("d=del(-7,2);", optimised);
            x.note(0, 1);
            Due.all("del of a number", Due.samples(x, 4), 0, 0, -7, -7);
            PatchVoices y = Due.playing("p=pit();d=del(p,1);", optimised);
            for (int pitch : new int[] {MIN, MAX}) {
                y.note(pitch, 1);
                y.run(1);
                Due.is("before", y.tap(0, 1), 0);
                y.run(1);
                Due.is("one sample ago", y.tap(0, 1), pitch);
            }
            // a del that reads itself has what it was: 0 for ever; and one that reads what reads it
            PatchVoices z = Due.playing("d=del(d,1);e=del(o,3);o=add(e,1);", optimised);
            z.note(0, 1);
            Due.all("a loop through a del", Due.samples(z, 8), 1, 1, 1, 2, 2, 2, 3, 3);
        }
    }

    private static void delsSideBySide() {
        String text = "s=saw(65536);a=del(s,64);t=saw(-65536);b=del(t,63);c=del(a,1);";
        PatchVoices x = Due.playing(text, false);
        x.note(0, 1);
        for (int t = 0; t < 100; t++) {
            x.run(1);
            Due.is("a at " + t, x.tap(0, 1), t < 64 ? 0 : t - 63);
            Due.is("b at " + t, x.tap(0, 3), t < 63 ? 0 : 62 - t);
            Due.is("c at " + t, x.tap(0, 4), t < 65 ? 0 : t - 64);
        }
    }

    private static void helds() {
        Due.by("19 hld x g: a number, at first 0, which becomes x when g is above 0 and was not in"
                + " the sample before (nor before the first one); that number");
        helds("taken in the first sample", row(5, 1, 5), row(6, 1, 5));
        helds("not taken in the first", row(5, 0, 0), row(6, 1, 6), row(7, 1, 6));
        for (int off : new int[] {0, -1, MIN}) {
            for (int on : new int[] {1, MAX}) {
                helds("off and on", row(5, off, 0), row(6, on, 6), row(7, on, 6), row(8, off, 6),
                        row(9, off, 6), row(MIN, on, MIN), row(MAX, off, MIN), row(MAX, on, MAX));
            }
        }
        helds("on stays on", row(5, 1, 5), row(6, MAX, 5), row(7, 1, 5));
        helds("off stays off", row(5, 0, 0), row(6, MIN, 0), row(7, -1, 0), row(8, 1, 8));
    }

    /** Rows of x, g, and the number that is due then. */
    private static void helds(String what, int[]... rows) {
        PatchVoices p = Due.playing("x=kno(0);g=kno(1);h=hld(x,g);", false);
        p.note(0, 1);
        for (int i = 0; i < rows.length; i++) {
            p.knob(0, rows[i][0]);
            p.knob(1, rows[i][1]);
            p.run(1);
            Due.is(what + ", sample " + i, p.tap(0, 2), rows[i][2]);
        }
    }

    private static void oneValueInASample() {
        Due.by("In a sample each module has one value .. and of its memory, which goes on by one"
                + " sample");
        PatchVoices x = Due.playing("s=saw(65536);t=add(s,s);o=add(t,s);", false);
        x.note(0, 1);
        Due.all("read thrice", Due.samples(x, 3), 3, 6, 9);
        // modules that stand before those that they read have this sample's values all the same
        PatchVoices y = Due.playing("d=del(s,1);a=sub(s,d);s=saw(k);k=kno(0);o=mix(a,a,1);", false);
        y.note(0, 1);
        y.knob(0, 65536 * 4);
        Due.all("this sample and the one before", Due.samples(y, 3), 4, 4, 4);
    }

    private static final String[] WITH_MEMORY = {
        "saw(70000000)", "sqr(700000000)", "tri(70000000)", "bow(70000000)", "noi()",
        "env(1,999,99,9)", "low(9999,9999,99)", "del(s,2)", "hld(s,t)",
    };

    private static void eachVoiceItsOwn() {
        Due.by("those from 11 on have a MEMORY, each voice its own");
        for (String call : WITH_MEMORY) {
            String text = "s=saw(1000000);u=sub(s,99);t=cmp(u,0);o=" + call + ";";
            PatchVoices x = Due.playing(text, false);
            x.voices(2);
            x.note(0, 1);
            int[] want = taps(x, 0, 10);
            x.note(0, 1);
            Due.all("a second voice of " + call, taps(x, 1, 10), want);
            PatchVoices alone = Due.playing(text, false);
            alone.note(0, 1);
            taps(alone, 0, 20);
            Due.all("the first one beside it", taps(x, 0, 5), taps(alone, 0, 5));
        }
    }

    private static int[] taps(PatchVoices x, int voice, int n) {
        int[] made = new int[n];
        for (int i = 0; i < n; i++) {
            x.run(1);
            made[i] = x.tap(voice, 3);
        }
        return made;
    }
}
