import java.util.NoSuchElementException;

/** The edges of samples, of out and tap, and of silence; promises 15 to 18. */
public final class SampleEdgesTest {
    private static final int MAX = Integer.MAX_VALUE;
    private static final int MIN = Integer.MIN_VALUE;

    public static void main(String[] args) {
        zeroToSixtyFour();
        withoutAProgram();
        piecesOfARun();
        theLeastAndTheGreatestSample();
        addedUpExactly();
        voicesThatAreTaken();
        theLastModuleIsTheOutput();
        samplesOfTheLatestRun();
        silentSince();
        tapsOfVoicesThatThereAre();
        tapsOfModulesThatThereAre();
        tapsOfModulesThatAreKept();
        tapsOfVoicesWithoutASample();
        tapsOfTheLatestSample();
        resetKeepsTheRest();
        resetOfSilence();
        theLastOfManyCalls();
        Due.end("SampleEdgesTest");
    }

    private static void zeroToSixtyFour() {
        Due.by("IllegalArgumentException: n is not 0 .. 64");
        PatchVoices x = Due.playing("s=saw(65536);", false);
        x.note(1, 1);
        x.run(2);
        for (int n : new int[] {-1, 65, -64, 66, 128, MIN, MAX}) {
            Due.thrown("run(" + n + ")", IllegalArgumentException.class, () -> x.run(n));
            Due.is("out(1) stays", x.out(1), 2);
            Due.thrown("out(2)", IndexOutOfBoundsException.class, () -> x.out(2));
            Due.is("tap(0, 0) stays", x.tap(0, 0), 2);
        }
        Due.all("the voice goes on from there", Due.samples(x, 1), 3);
        x.run(64);
        Due.is("out(63)", x.out(63), 67);
        Due.is("out(0)", x.out(0), 4);
        x.run(0);
        Due.thrown("out(0) behind run(0)", IndexOutOfBoundsException.class, () -> x.out(0));
        Due.is("tap(0, 0) behind run(0)", x.tap(0, 0), 67);
        Due.all("run(0) made no sample", Due.samples(x, 1), 68);
        for (int n = 1; n <= 64; n++) {
            PatchVoices y = Due.playing("s=saw(65536);", n % 2 == 0);
            y.note(1, 1);
            y.run(n);
            Due.is("the last of " + n, y.out(n - 1), n);
            Due.is("tap behind " + n, y.tap(0, 0), n);
            int none = n;
            Due.thrown("out(" + n + ")", IndexOutOfBoundsException.class, () -> y.out(none));
        }
    }

    private static void withoutAProgram() {
        Due.by("IllegalStateException: there is no program");
        PatchVoices x = new PatchVoices();
        for (int n : new int[] {0, 1, 64}) {
            Due.thrown("run(" + n + ")", IllegalStateException.class, () -> x.run(n));
        }
        // of two exceptions that are due at once the first one that the document names
        for (int n : new int[] {-1, 65}) {
            Due.thrown("run(" + n + ")", IllegalArgumentException.class, () -> x.run(n));
        }
        Due.type(x, "a=pit(1);");
        Due.thrown("with a text", IllegalStateException.class, () -> x.run(1));
        x.compile();
        Due.thrown("behind a fault", IllegalStateException.class, () -> x.run(1));
        x.note(1, 1);
        Due.thrown("with a voice", IllegalStateException.class, () -> x.run(1));
        Due.compile(x, "a=pit();");
        x.run(1);
        x.erase();
        x.compile();
        x.reset();
        x.run(1);
        Due.is("a program stays over a fault and reset()", x.out(0), 0);
    }

    private static void piecesOfARun() {
        Due.by("Makes n samples");
        String text = "g=gat();n=noi();e=env(g,9999,99,999);l=low(n,9999,9999);d=del(l,5);"
                + "b=bow(70000000);h=hld(b,n);m=mix(d,h,e);t=tri(m);o=add(m,t);";
        PatchVoices whole = Due.playing(text, false);
        PatchVoices parts = Due.playing(text, true);
        whole.note(1, 1);
        parts.note(1, 1);
        int[] want = Due.samples(whole, 64);
        int at = 0;
        for (int n : new int[] {1, 0, 2, 3, 10, 0, 20, 28}) {
            int[] got = Due.samples(parts, n);
            for (int i = 0; i < n; i++) {
                Due.is("sample " + at, got[i], want[at]);
                at++;
            }
        }
        Due.is("all", at, 64);
    }

    /** The sample of voices with these pitches for their values. */
    private static void sample(int want, int... pitches) {
        PatchVoices x = Due.playing("p=pit();", false);
        x.voices(4);
        for (int pitch : pitches) {
            x.note(pitch, 1);
        }
        x.run(1);
        Due.is("sample of " + java.util.Arrays.toString(pitches), x.out(0), want);
        for (int v = 0; v < pitches.length; v++) {
            Due.is("a tap is as it is", x.tap(v, 0), pitches[v]);
        }
    }

    private static void theLeastAndTheGreatestSample() {
        Due.by("what is less than -32768 or greater than 32767 becomes that");
        sample(32766, 32766);
        sample(32767, 32767);
        sample(32767, 32768);
        sample(32767, MAX);
        sample(-32767, -32767);
        sample(-32768, -32768);
        sample(-32768, -32769);
        sample(-32768, MIN);
        sample(32767, 32766, 1);
        sample(32767, 32766, 2);
        sample(-32768, -32767, -1);
        sample(-32768, -32767, -2);
        sample(0, 0);
    }

    private static void addedUpExactly() {
        Due.by("the output's values in all voices that are taken .. are added up (exactly)");
        sample(32767, MAX, MAX);
        sample(32767, MAX, MAX, MAX, MAX);
        sample(-32768, MIN, MIN);
        sample(-32768, MIN, MIN, MIN, MIN);
        sample(-1, MAX, MIN);
        sample(-2, MAX, MIN, MAX, MIN);
        sample(-2, MAX, MAX, MIN, MIN);
        sample(32767, MAX, 1);
        sample(-32768, MIN, -1);
        // only the sum is cut, not what is added up
        sample(10000, 40000, -30000);
        sample(-10000, -40000, 30000);
        sample(0, 40000, 40000, -40000, -40000);
        sample(32767, MIN, MAX, 1, 32767);
        sample(-32768, MIN, MAX, 1, -32768);
        sample(-32768, MIN, MAX, 0, -32768);
    }

    private static void voicesThatAreTaken() {
        Due.by("A SAMPLE: the output's values in all voices that are taken, by the knobs as they"
                + " are");
        PatchVoices x = Due.playing("p=pit();k=kno(0);o=add(p,k);", false);
        x.voices(3);
        Due.all("none is taken", Due.samples(x, 2), 0, 0);
        x.knob(0, 100);
        Due.all("none is taken", Due.samples(x, 1), 0);
        x.note(1, 1);
        Due.all("one", Due.samples(x, 1), 101);
        x.note(2, 1);
        Due.all("two", Due.samples(x, 1), 203);
        x.note(3, 1);
        Due.all("three", Due.samples(x, 1), 306);
        x.off(0);
        x.off(1);
        Due.all("a gate that is off does not matter", Due.samples(x, 1), 306);
        x.knob(0, -1);
        x.run(16);
        Due.is("0 is not active", x.active(0), false);
        x.knob(0, 100);
        Due.all("one that is not active is taken still", Due.samples(x, 1), 306);
        // a number that stands for the output counts in taken voices alone
        PatchVoices y = Due.playing("o=add(3,4);", true);
        y.voices(2);
        Due.all("none is taken", Due.samples(y, 1), 0);
        y.note(1, 1);
        Due.all("one", Due.samples(y, 1), 7);
        y.note(1, 1);
        Due.all("two", Due.samples(y, 1), 14);
    }

    private static void theLastModuleIsTheOutput() {
        Due.by("Each statement makes a MODULE, 0, 1, .. in their order; the last one is the"
                + " OUTPUT");
        for (int modules = 1; modules <= 24; modules++) {
            StringBuilder text = new StringBuilder();
            for (int m = 0; m < modules; m++) {
                // names that go down, so that the order of names is not that of modules
                text.append((char) ('z' - m)).append("=add(").append(m).append(",9);");
            }
            for (boolean optimised : new boolean[] {false, true}) {
                PatchVoices x = Due.playing(text.toString(), optimised);
                x.note(1, 1);
                Due.all("the last of " + modules, Due.samples(x, 1), 8 + modules);
            }
        }
        // last by the text, not by the order
        PatchVoices x = Due.playing("a=add(c,1);b=add(a,1);c=pit();", false);
        x.note(7, 1);
        Due.all("first in the order", Due.samples(x, 1), 7);
    }

    private static void samplesOfTheLatestRun() {
        Due.by("IndexOutOfBoundsException: it made none such");
        PatchVoices x = Due.playing("s=saw(65536);", false);
        for (int i : new int[] {-1, 0, 1, MIN, MAX}) {
            Due.thrown("out(" + i + ") before run()", IndexOutOfBoundsException.class,
                    () -> x.out(i));
        }
        x.note(1, 1);
        x.run(64);
        for (int i = 0; i < 64; i++) {
            Due.is("out(" + i + ")", x.out(i), i + 1);
        }
        for (int i : new int[] {-1, 64, 65, -64, MIN, MAX}) {
            Due.thrown("out(" + i + ") of 64", IndexOutOfBoundsException.class, () -> x.out(i));
        }
        x.run(3);
        Due.is("out(0) of the latest", x.out(0), 65);
        Due.is("out(2) of the latest", x.out(2), 67);
        for (int i : new int[] {-1, 3, 4, 63}) {
            Due.thrown("out(" + i + ") of 3", IndexOutOfBoundsException.class, () -> x.out(i));
        }
        x.run(1);
        Due.is("out(0) of 1", x.out(0), 68);
        Due.thrown("out(1) of 1", IndexOutOfBoundsException.class, () -> x.out(1));
    }

    private static PatchVoices withSamples() {
        PatchVoices x = Due.playing("s=saw(65536);", false);
        x.voices(2);
        x.note(1, 1);
        x.run(3);
        return x;
    }

    private static void silentSince() {
        Due.by("IndexOutOfBoundsException: .. or all was silent since");
        Due.Call[] silencing = {
            x -> x.compile(),
            x -> nothing(() -> x.voices(2)),
            x -> nothing(() -> x.voices(4)),
            x -> nothing(x::reset),
        };
        for (Due.Call call : silencing) {
            PatchVoices x = withSamples();
            Due.is("out(2)", x.out(2), 3);
            call.ask(x);
            for (int i = 0; i < 3; i++) {
                int sample = i;
                Due.thrown("out(" + i + ")", IndexOutOfBoundsException.class, () -> x.out(sample));
            }
            Due.is("active(0)", x.active(0), false);
            Due.thrown("off(0)", IllegalStateException.class, () -> x.off(0));
            Due.thrown("tap(0, 0)", NoSuchElementException.class, () -> x.tap(0, 0));
            x.run(1);
            Due.is("out(0) of the next run()", x.out(0), 0);
            Due.thrown("out(1)", IndexOutOfBoundsException.class, () -> x.out(1));
        }
        Due.Call[] others = {
            x -> x.note(1, 1), x -> x.note(1, 1) + x.note(1, 1), x -> nothing(() -> x.off(0)),
            x -> nothing(() -> x.knob(0, 5)), x -> x.erase(), x -> x.erase() + x.compile(),
            x -> x.type('?', 1) + x.compile(), x -> nothing(() -> x.optimise(true)),
            x -> x.named() + x.steps() + x.slots() + x.step(0, 0), x -> x.tap(0, 0) + x.out(1),
        };
        for (Due.Call call : others) {
            PatchVoices x = withSamples();
            call.ask(x);
            for (int i = 0; i < 3; i++) {
                Due.is("out(" + i + ") stays", x.out(i), i + 1);
            }
        }
    }

    private static long nothing(Runnable call) {
        call.run();
        return 0;
    }

    private static void tapsOfVoicesThatThereAre() {
        Due.by("IndexOutOfBoundsException: there is no such voice (tap)");
        for (int n = 1; n <= 4; n++) {
            PatchVoices x = Due.playing("a=noi();p=pit();", true);
            x.voices(4);
            x.note(1, 1);
            x.note(1, 1);
            x.voices(n);
            for (int v = 0; v < n; v++) {
                x.note(v + 5, 1);
            }
            x.run(1);
            for (int v = 0; v < n; v++) {
                Due.is("tap(" + v + ", 1) of " + n, x.tap(v, 1), v + 5);
            }
            for (int v : new int[] {-1, n, n + 1, 4, MIN, MAX}) {
                for (int m : new int[] {-1, 0, 1, 2}) {
                    Due.thrown("tap(" + v + ", " + m + ") of " + n,
                            IndexOutOfBoundsException.class, () -> x.tap(v, m));
                }
            }
        }
    }

    private static void tapsOfModulesThatThereAre() {
        Due.by("or the patch of the program has no such module");
        for (int modules : new int[] {1, 2, 23, 24}) {
            StringBuilder text = new StringBuilder();
            for (int m = 0; m < modules; m++) {
                text.append((char) ('a' + m)).append("=add(").append(m).append(",5);");
            }
            PatchVoices x = Due.playing(text.toString(), false);
            x.voices(2);
            x.note(1, 1);
            x.run(1);
            for (int m = 0; m < modules; m++) {
                Due.is("tap(0, " + m + ")", x.tap(0, m), m + 5);
            }
            for (int m : new int[] {-1, modules, modules + 1, 24, MIN, MAX}) {
                for (int v = 0; v < 2; v++) {
                    int voice = v;
                    Due.thrown("tap(" + v + ", " + m + ") of " + modules,
                            IndexOutOfBoundsException.class, () -> x.tap(voice, m));
                }
            }
        }
        PatchVoices none = new PatchVoices();
        none.note(1, 1);
        for (int m : new int[] {-1, 0, 1}) {
            Due.thrown("without a program", IndexOutOfBoundsException.class, () -> none.tap(0, m));
        }
        PatchVoices x = Due.playing("a=pit();b=pit();c=pit();", false);
        Due.compile(x, "a=pit();");
        x.note(1, 1);
        x.run(1);
        Due.thrown("of the program before", IndexOutOfBoundsException.class, () -> x.tap(0, 1));
        Due.is("compile() with a fault", Due.compile(x, "a=pit();b=pit();c=pit(1);"), 4);
        Due.thrown("of a text with a fault", IndexOutOfBoundsException.class, () -> x.tap(0, 1));
        Due.is("of the program that stays", x.tap(0, 0), 1);
    }

    private static void tapsOfModulesThatAreKept() {
        Due.by("NoSuchElementException: it is not kept");
        // 1 is the same as 0, 2 a number, 4 is not needed, 6 has 0 stand for it
        PatchVoices x = Due.playing(
                "a=pit();b=pit();c=add(1,2);d=add(b,c);e=noi();f=del(d,1);g=add(f,a);", true);
        x.note(7, 1);
        x.run(2);
        int[] kept = {0, 3, 5, 6};
        int[] want = {7, 10, 10, 17};
        for (int i = 0; i < kept.length; i++) {
            Due.is("tap(0, " + kept[i] + ")", x.tap(0, kept[i]), want[i]);
        }
        for (int m : new int[] {1, 2, 4}) {
            Due.thrown("tap(0, " + m + ")", NoSuchElementException.class, () -> x.tap(0, m));
        }
        PatchVoices y = Due.playing("a=pit();b=pit();", true);
        y.note(7, 1);
        y.run(1);
        Due.is("what stands for the output", y.tap(0, 0), 7);
        Due.thrown("the output itself", NoSuchElementException.class, () -> y.tap(0, 1));
        PatchVoices z = Due.playing("a=add(1,1);", true);
        z.note(7, 1);
        z.run(1);
        Due.thrown("a number", NoSuchElementException.class, () -> z.tap(0, 0));
        Due.thrown("no module", IndexOutOfBoundsException.class, () -> z.tap(0, 1));
    }

    private static void tapsOfVoicesWithoutASample() {
        Due.by("or the voice has made no sample since it was taken, or is not");
        PatchVoices x = Due.playing("p=pit();", false);
        x.voices(2);
        Due.thrown("not taken", NoSuchElementException.class, () -> x.tap(0, 0));
        x.run(1);
        Due.thrown("not taken, with a sample", NoSuchElementException.class, () -> x.tap(0, 0));
        x.note(5, 1);
        Due.thrown("taken behind the sample", NoSuchElementException.class, () -> x.tap(0, 0));
        x.run(0);
        Due.thrown("run(0)", NoSuchElementException.class, () -> x.tap(0, 0));
        Due.thrown("run(65)", IllegalArgumentException.class, () -> x.run(65));
        Due.thrown("behind run(65)", NoSuchElementException.class, () -> x.tap(0, 0));
        x.run(1);
        Due.is("tap(0, 0)", x.tap(0, 0), 5);
        Due.thrown("the other is not taken", NoSuchElementException.class, () -> x.tap(1, 0));
        x.note(6, 1);
        Due.is("0 has made its sample", x.tap(0, 0), 5);
        Due.thrown("1 has made none", NoSuchElementException.class, () -> x.tap(1, 0));
        x.run(1);
        Due.is("tap(1, 0)", x.tap(1, 0), 6);
        Due.is("0 is taken again", x.note(8, 1), 0);
        Due.thrown("no sample since then", NoSuchElementException.class, () -> x.tap(0, 0));
        Due.is("tap(1, 0) stays", x.tap(1, 0), 6);
        x.run(1);
        Due.is("tap(0, 0)", x.tap(0, 0), 8);
        x.reset();
        Due.thrown("behind reset()", NoSuchElementException.class, () -> x.tap(0, 0));
        x.note(9, 1);
        Due.thrown("and a note", NoSuchElementException.class, () -> x.tap(0, 0));
    }

    private static void tapsOfTheLatestSample() {
        Due.by("The value of a module in a voice in its latest sample");
        PatchVoices x = Due.playing("g=gat();k=kno(0);s=saw(65536);d=del(s,2);", false);
        x.note(1, 1);
        x.run(5);
        x.off(0);
        x.knob(0, 9);
        x.run(0);
        int[] want = {65536, 0, 5, 3};
        for (int m = 0; m < 4; m++) {
            Due.is("tap(0, " + m + ")", x.tap(0, m), want[m]);
        }
        x.run(16);
        int[] later = {0, 9, 21, 19};
        for (int m = 0; m < 4; m++) {
            Due.is("tap(0, " + m + ")", x.tap(0, m), later[m]);
        }
        // one that is not active goes on, and so do its taps
        PatchVoices y = Due.playing("s=saw(65536);o=kno(0);", false);
        y.note(1, 1);
        y.off(0);
        y.run(40);
        Due.is("active(0)", y.active(0), false);
        Due.is("tap(0, 0)", y.tap(0, 0), 40);
    }

    private static void resetKeepsTheRest() {
        Due.by("All is silent; program, knobs and voices stay");
        PatchVoices x = Due.playing("k=kno(1);s=saw(k);t=add(1,1);d=del(s,1);o=add(s,d);", true);
        Due.is("compile() with a fault", Due.compile(x, "a=pit();b=pit(1);"), 4);
        x.voices(3);
        x.knob(1, 65536);
        x.note(1, 1);
        x.note(1, 1);
        x.off(1);
        x.run(9);
        x.reset();
        for (int v = 0; v < 3; v++) {
            int voice = v;
            Due.is("active(" + v + ")", x.active(v), false);
            Due.thrown("off(" + v + ")", IllegalStateException.class, () -> x.off(voice));
            Due.thrown("tap(" + v + ", 0)", NoSuchElementException.class, () -> x.tap(voice, 0));
        }
        Due.thrown("active(3)", IndexOutOfBoundsException.class, () -> x.active(3));
        Due.thrown("out(0)", IndexOutOfBoundsException.class, () -> x.out(0));
        Due.is("steps()", x.steps(), 5);
        Due.is("slots()", x.slots(), 2);
        Due.is("named()", x.named(), 1);
        Due.all("no voice is taken", Due.samples(x, 2), 0, 0);
        Due.is("note", x.note(1, 1), 0);
        Due.all("memories as at first", Due.samples(x, 3), 1, 3, 5);
        Due.is("note", x.note(1, 1), 1);
        Due.is("note", x.note(1, 1), 2);
        Due.is("the text stays", x.compile(), 4);
        Due.is("the text stays", x.erase(), 17);
    }

    private static void resetOfSilence() {
        PatchVoices x = new PatchVoices();
        x.reset();
        x.reset();
        Due.is("steps()", x.steps(), 0);
        Due.is("active(0)", x.active(0), false);
        Due.thrown("run(0)", IllegalStateException.class, () -> x.run(0));
        x.note(1, 1);
        x.reset();
        Due.is("active(0)", x.active(0), false);
        PatchVoices y = Due.playing("p=pit();", false);
        y.reset();
        y.note(3, 1);
        Due.all("samples", Due.samples(y, 1), 3);
    }

    private static void theLastOfManyCalls() {
        Due.by("An object is used for at most 512 calls after it has been made");
        PatchVoices x = new PatchVoices();
        Due.type(x, "s=saw(1);g=gat();d=del(s,64);n=noi();p=pit();o=add(p,g);");
        x.compile();
        x.voices(4);
        // 7 + 2 calls until here, 500 more, and then three
        for (int i = 0; i < 250; i++) {
            Due.is("note " + i, x.note(i, 1), i % 4);
            x.run(64);
        }
        // 65536 * 4 is far above what a sample may be
        Due.is("call 510", x.out(63), 32767);
        Due.is("call 511", x.tap(1, 4), 249);
        Due.is("call 512", x.tap(0, 0), 0);
        PatchVoices y = new PatchVoices();
        for (int i = 0; i < 300; i++) {
            Due.is("type", y.type(' ', 1), i + 1);
        }
        for (int i = 300; i < 510; i++) {
            Due.is("type", y.type(' ', 1), PatchVoices.NONE);
        }
        Due.is("call 511", y.compile(), -301);
        Due.is("call 512", y.erase(), 300);
    }
}
