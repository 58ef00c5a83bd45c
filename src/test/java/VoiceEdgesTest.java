/** The edges of voices, notes, gates and knobs; promises 10 to 14. */
public final class VoiceEdgesTest {
    private static final int MAX = Integer.MAX_VALUE;
    private static final int MIN = Integer.MIN_VALUE;

    public static void main(String[] args) {
        oneToFourVoices();
        voicesSilenceAll();
        sixteenSamplesOfZero();
        oneBehindTheOther();
        onlyBehindTheGate();
        theOutputsValueAlone();
        notActiveUntilItIsTaken();
        strengthsOneToOneHundredTwentySeven();
        theLeastNeverTaken();
        theOneNotActiveForTheMostSamples();
        ofSeveralTheLeast();
        theLatestTakingFarthestBack();
        notesWithoutAProgram();
        memoriesAsAtFirst();
        zerosBeforeTheNoteDoNotCount();
        aNoteTouchesNoOtherVoice();
        gatesOfVoicesThatThereAre();
        gatesThatAreNotOn();
        voicesThatThereAre();
        knobsZeroToThree();
        knobsFromNowOn();
        Due.end("VoiceEdgesTest");
    }

    private static void actives(String what, PatchVoices x, boolean... want) {
        for (int v = 0; v < want.length; v++) {
            Due.is(what + ": active(" + v + ")", x.active(v), want[v]);
        }
        Due.thrown(what + ": active(" + want.length + ")", IndexOutOfBoundsException.class,
                () -> x.active(want.length));
    }

    private static void notes(String what, PatchVoices x, int... want) {
        for (int i = 0; i < want.length; i++) {
            Due.is(what + ": note " + i, x.note(1, 1), want[i]);
        }
    }

    private static void oneToFourVoices() {
        Due.by("IllegalArgumentException: n is not 1 .. 4");
        for (int n : new int[] {0, 5, -1, 8, MIN, MAX}) {
            PatchVoices x = Due.playing("a=pit();", false);
            x.voices(2);
            x.note(3, 1);
            x.run(1);
            Due.thrown("voices(" + n + ")", IllegalArgumentException.class, () -> x.voices(n));
            actives("as before", x, true, false);
            Due.is("out(0) as before", x.out(0), 3);
            notes("as before", x, 1, 0);
        }
        for (int n = 1; n <= 4; n++) {
            PatchVoices x = Due.playing("a=pit();", false);
            x.voices(n);
            actives("voices(" + n + ")", x, new boolean[n]);
            for (int v = 0; v < n; v++) {
                notes("voices(" + n + ")", x, v);
            }
            notes("one more than there are", x, 0);
            Due.all("all together", Due.samples(x, 1), n);
        }
        Due.by("VOICES: at first one");
        actives("at first", new PatchVoices(), false);
        notes("at first", new PatchVoices(), 0, 0, 0);
    }

    private static void voicesSilenceAll() {
        Due.by("There are n voices then, and all is silent");
        for (int n = 1; n <= 4; n++) {
            for (int before = 1; before <= 4; before++) {
                PatchVoices x = Due.playing("k=kno(2);s=saw(k);", false);
                x.knob(2, 65536);
                x.voices(before);
                for (int v = 0; v < before; v++) {
                    x.note(1, 1);
                }
                x.run(5);
                x.voices(n);
                actives("voices(" + n + ")", x, new boolean[n]);
                Due.thrown("out(0)", IndexOutOfBoundsException.class, () -> x.out(0));
                Due.thrown("off(0)", IllegalStateException.class, () -> x.off(0));
                Due.thrown("tap(0, 0)", java.util.NoSuchElementException.class, () -> x.tap(0, 0));
                Due.all("no voice is taken", Due.samples(x, 2), 0, 0);
                notes("never taken", x, 0);
                Due.all("program and knobs stay", Due.samples(x, 2), 1, 2);
            }
        }
    }

    /** A voice of the value of knob 0, its gate off. */
    private static PatchVoices ofKnob(boolean optimised) {
        PatchVoices x = Due.playing("o=kno(0);", optimised);
        x.note(1, 1);
        x.off(0);
        return x;
    }

    private static void sixteenSamplesOfZero() {
        Due.by("It is ACTIVE until its gate is off and then, in 16 samples one behind the other,"
                + " the output's value has been 0");
        for (int n = 0; n <= 40; n++) {
            PatchVoices x = ofKnob(n % 2 == 0);
            x.run(n);
            Due.is("active(0) behind " + n + " at once", x.active(0), n < 16);
            PatchVoices y = ofKnob(n % 2 == 1);
            for (int i = 0; i < n; i++) {
                Due.is("active(0) behind " + i + " one by one", y.active(0), i < 16);
                y.run(1);
            }
        }
        PatchVoices x = ofKnob(false);
        x.run(7);
        x.run(0);
        x.run(8);
        Due.is("15 in pieces", x.active(0), true);
        x.run(0);
        Due.is("15 in pieces", x.active(0), true);
        x.run(1);
        Due.is("16 in pieces", x.active(0), false);
    }

    private static void oneBehindTheOther() {
        for (int value : new int[] {1, -1, MIN, MAX, 65536}) {
            for (int zeros = 0; zeros <= 15; zeros++) {
                PatchVoices x = ofKnob(false);
                x.run(zeros);
                x.knob(0, value);
                x.run(1);
                x.knob(0, 0);
                x.run(15);
                Due.is(zeros + " zeros, " + value + ", 15 zeros", x.active(0), true);
                x.run(1);
                Due.is(zeros + " zeros, " + value + ", 16 zeros", x.active(0), false);
            }
        }
    }

    private static void onlyBehindTheGate() {
        for (int before : new int[] {0, 1, 15, 16, 64}) {
            PatchVoices x = Due.playing("o=kno(0);", false);
            x.note(1, 1);
            x.run(before);
            Due.is(before + " zeros, the gate on", x.active(0), true);
            x.off(0);
            Due.is("off() alone", x.active(0), true);
            x.run(15);
            Due.is("15 zeros behind off()", x.active(0), true);
            x.run(1);
            Due.is("16 zeros behind off()", x.active(0), false);
        }
    }

    private static void theOutputsValueAlone() {
        // other modules are not 0, and the output is a number
        PatchVoices x = Due.playing("a=noi();o=add(0,0);", true);
        x.note(1, 1);
        x.off(0);
        x.run(15);
        Due.is("15 samples of the number 0", x.active(0), true);
        x.run(1);
        Due.is("16 samples of the number 0", x.active(0), false);
        PatchVoices y = Due.playing("a=kno(0);o=add(0,1);", true);
        y.note(1, 1);
        y.off(0);
        y.run(64);
        Due.is("64 samples of the number 1", y.active(0), true);
        // two voices whose values come to 0 together, and one that is 0 beside one that is not
        PatchVoices z = Due.playing("o=pit();", false);
        z.voices(3);
        z.note(5, 1);
        z.note(-5, 1);
        z.note(0, 1);
        z.off(0);
        z.off(1);
        z.off(2);
        z.run(16);
        Due.is("the sum", z.out(15), 0);
        actives("each by its own value", z, true, true, false);
    }

    private static void notActiveUntilItIsTaken() {
        PatchVoices x = ofKnob(false);
        x.run(16);
        x.knob(0, 9);
        Due.all("it is taken still", Due.samples(x, 3), 9, 9, 9);
        Due.is("and not active", x.active(0), false);
        notes("it is taken again", x, 0);
        Due.is("active at once", x.active(0), true);
        Due.by("(one that is not taken is not)");
        PatchVoices y = Due.playing("o=kno(0);", false);
        y.run(3);
        Due.is("not taken", y.active(0), false);
    }

    private static void strengthsOneToOneHundredTwentySeven() {
        Due.by("IllegalArgumentException: strength is not 1 .. 127");
        for (int strength : new int[] {0, 128, -1, -127, 255, 257, MIN, MAX}) {
            PatchVoices x = Due.playing("v=vel();", false);
            x.voices(2);
            Due.thrown("note(1, " + strength + ")", IllegalArgumentException.class,
                    () -> x.note(1, strength));
            actives("nothing taken", x, false, false);
            Due.is("note", x.note(1, 2), 0);
            x.off(0);
            x.run(3);
            Due.thrown("note(1, " + strength + ")", IllegalArgumentException.class,
                    () -> x.note(1, strength));
            Due.thrown("its gate is as before", IllegalStateException.class, () -> x.off(0));
            Due.all("its strength is as before", Due.samples(x, 1), 1024);
            Due.is("the next one", x.note(1, 2), 1);
        }
        for (int strength = 1; strength <= 127; strength++) {
            PatchVoices x = Due.playing("v=vel();", false);
            Due.is("note(1, " + strength + ")", x.note(1, strength), 0);
            x.run(1);
            Due.is("vel", x.tap(0, 0), 512 * strength);
        }
        for (int pitch : new int[] {MIN, -1, 0, 1, MAX}) {
            PatchVoices x = Due.playing("p=pit();", false);
            Due.is("note(" + pitch + ", 1)", x.note(pitch, 1), 0);
            x.run(1);
            Due.is("pit", x.tap(0, 0), pitch);
        }
    }

    private static void theLeastNeverTaken() {
        Due.by("Takes a voice: the least one never taken since all was silent");
        PatchVoices x = Due.playing("o=kno(0);", false);
        x.voices(4);
        for (int v = 0; v < 4; v++) {
            // those before are not active any more, and yet those never taken come first
            notes("never taken", x, v);
            x.off(v);
            x.run(20);
            Due.is("active(" + v + ")", x.active(v), false);
        }
        notes("all were taken", x, 0);
        x.reset();
        notes("behind reset()", x, 0, 1, 2);
        x.compile();
        notes("behind compile()", x, 0, 1);
        x.voices(4);
        notes("behind voices()", x, 0, 1, 2, 3, 0);
        x.erase();
        x.compile();
        notes("behind a fault nothing is silent", x, 1, 2);
    }

    /** Each voice is 0 once knob 0 is not less than its pitch. */
    private static PatchVoices byPitch(int... pitches) {
        PatchVoices x = Due.playing("p=pit();k=kno(0);o=cmp(p,k);", false);
        x.voices(pitches.length);
        for (int v = 0; v < pitches.length; v++) {
            Due.is("note", x.note(pitches[v], 1), v);
        }
        return x;
    }

    private static void theOneNotActiveForTheMostSamples() {
        Due.by("else, of those not active, the one that has not been for the most samples");
        // one sample apart, whichever gate went off first
        PatchVoices x = byPitch(30, 20, 40, 10);
        for (int v = 0; v < 4; v++) {
            x.off(v);
            x.run(1);
        }
        for (int knob = 10; knob <= 40; knob += 10) {
            x.knob(0, knob);
            x.run(1);
        }
        x.run(15);
        actives("all quiet", x, false, false, false, false);
        notes("the longest quiet first", x, 3, 1, 0, 2);
        // those that are active still are not taken, however old
        PatchVoices y = byPitch(90, 20, 90, 10);
        for (int v = 0; v < 4; v++) {
            y.off(v);
        }
        y.knob(0, 20);
        y.run(16);
        actives("two quiet", y, true, false, true, false);
        notes("the quiet ones, then the oldest", y, 1, 3, 0, 2, 1);
        // by samples, not by calls or by takings
        PatchVoices z = byPitch(20, 10);
        z.off(0);
        z.off(1);
        z.knob(0, 10);
        z.run(15);
        z.run(0);
        z.knob(0, 20);
        z.run(1);
        actives("1 is quiet for no sample yet", z, true, false);
        z.run(15);
        actives("0 is quiet, 1 for 15 samples", z, false, false);
        z.run(0);
        notes("the longest quiet", z, 1);
        notQuietSinceTheNote();
    }

    /** How long a voice was not active before it was taken again does not count. */
    private static void notQuietSinceTheNote() {
        PatchVoices x = byPitch(10, 90);
        x.knob(0, 10);
        x.off(0);
        x.run(64);
        x.run(64);
        notes("0 is quiet", x, 0);
        x.off(1);
        x.knob(0, 90);
        x.run(1);
        x.off(0);
        x.run(16);
        actives("1 for a sample more than 0", x, false, false);
        notes("the longest quiet", x, 1, 0);
    }

    private static void ofSeveralTheLeast() {
        Due.by("(of several the least)");
        PatchVoices x = byPitch(20, 10, 20, 10);
        for (int v = 3; v >= 0; v--) {
            x.off(v);
        }
        x.knob(0, 10);
        x.run(3);
        x.knob(0, 20);
        x.run(30);
        notes("1 and 3, then 0 and 2", x, 1, 3, 0, 2);
        PatchVoices y = byPitch(10, 10, 10, 10);
        for (int v = 3; v >= 0; v--) {
            y.off(v);
        }
        y.knob(0, 10);
        y.run(16);
        notes("all four, in the sample in which they end", y, 0, 1, 2, 3, 0);
    }

    private static void theLatestTakingFarthestBack() {
        Due.by("else the one whose latest taking lies farthest back");
        PatchVoices x = byPitch(90, 10, 90);
        x.off(1);
        x.knob(0, 10);
        x.run(16);
        notes("1 is quiet", x, 1);
        // 1 is the latest now
        notes("all are active", x, 0, 2, 1, 0, 2, 1);
        PatchVoices y = byPitch(90, 90, 90, 90);
        for (int v = 3; v >= 0; v--) {
            y.off(v);
        }
        y.run(64);
        notes("gates off, all active", y, 0, 1, 2, 3, 0);
        PatchVoices z = byPitch(5);
        notes("one voice", z, 0, 0, 0);
    }

    private static void notesWithoutAProgram() {
        PatchVoices x = new PatchVoices();
        notes("without a program", x, 0, 0);
        Due.is("active(0)", x.active(0), true);
        x.off(0);
        Due.is("no sample, so it stays active", x.active(0), true);
        x.voices(3);
        notes("without a program", x, 0, 1, 2, 0, 1);
        Due.thrown("run(1)", IllegalStateException.class, () -> x.run(1));
        Due.compile(x, "a=pit();");
        actives("behind compile()", x, false, false, false);
    }

    private static final String[] WITH_MEMORY = {
        "saw(70000000)", "sqr(700000000)", "tri(70000000)", "bow(70000000)", "noi()",
        "env(g,999,99,9)", "low(9999,9999,99)", "del(s,2)", "hld(s,t)", "del(5,64)",
    };

    private static void memoriesAsAtFirst() {
        Due.by("Its memories are as at first, its gate is on");
        for (String call : WITH_MEMORY) {
            PatchVoices x = Due.playing(
                    "g=gat();s=saw(1000000);u=sub(s,99);t=cmp(u,0);o=" + call + ";", false);
            x.note(0, 1);
            int[] want = taps(x, 70);
            x.note(0, 1);
            Due.all("an active voice is taken: " + call, taps(x, 70), want);
            x.off(0);
            x.run(5);
            x.note(0, 1);
            x.run(1);
            Due.is("its gate is on", x.tap(0, 0), 65536);
            x.off(0);
        }
    }

    private static int[] taps(PatchVoices x, int n) {
        int[] made = new int[n];
        for (int i = 0; i < n; i++) {
            x.run(1);
            made[i] = x.tap(0, 4);
        }
        return made;
    }

    private static void zerosBeforeTheNoteDoNotCount() {
        for (int before = 0; before <= 17; before++) {
            PatchVoices x = ofKnob(false);
            x.run(before);
            x.note(1, 1);
            x.off(0);
            x.run(15);
            Due.is(before + " zeros, a note, 15 zeros", x.active(0), true);
            x.run(1);
            Due.is(before + " zeros, a note, 16 zeros", x.active(0), false);
        }
    }

    private static void aNoteTouchesNoOtherVoice() {
        Due.by("Takes a voice");
        PatchVoices x = Due.playing("p=pit();s=saw(p);", false);
        x.voices(2);
        x.note(65536, 1);
        x.run(5);
        x.note(6553600, 1);
        Due.is("out(4) stays", x.out(4), 5);
        Due.is("tap(0, 1) stays", x.tap(0, 1), 5);
        Due.thrown("tap(1, 1)", java.util.NoSuchElementException.class, () -> x.tap(1, 1));
        x.run(1);
        Due.is("0 goes on", x.tap(0, 1), 6);
        Due.is("1 begins", x.tap(1, 1), 100);
        x.off(1);
        x.run(1);
        Due.thrown("the gate of 1 is off", IllegalStateException.class, () -> x.off(1));
        x.off(0);
    }

    private static void gatesOfVoicesThatThereAre() {
        Due.by("IndexOutOfBoundsException: there is no such voice (off)");
        for (int n = 1; n <= 4; n++) {
            PatchVoices x = Due.playing("g=gat();", false);
            x.voices(4);
            x.note(1, 1);
            x.voices(n);
            for (int v = 0; v < n; v++) {
                x.note(1, 1);
            }
            for (int v : new int[] {-1, n, n + 1, 4, MIN, MAX}) {
                Due.thrown("off(" + v + ") of " + n, IndexOutOfBoundsException.class,
                        () -> x.off(v));
            }
            Due.all("all gates are on still", Due.samples(x, 1), 32767);
            for (int v = n - 1; v >= 0; v--) {
                x.off(v);
                x.run(1);
                Due.is("gat of " + v, x.tap(v, 0), 0);
            }
            Due.all("all gates are off", Due.samples(x, 1), 0);
        }
    }

    private static void gatesThatAreNotOn() {
        Due.by("IllegalStateException: its gate is not on");
        PatchVoices x = Due.playing("g=gat();", false);
        x.voices(2);
        Due.thrown("not taken", IllegalStateException.class, () -> x.off(0));
        x.note(1, 1);
        Due.thrown("the other one not taken", IllegalStateException.class, () -> x.off(1));
        x.off(0);
        Due.thrown("off already", IllegalStateException.class, () -> x.off(0));
        x.run(16);
        Due.thrown("not active", IllegalStateException.class, () -> x.off(0));
        x.note(1, 1);
        x.off(1);
        notes("0 is quiet", x, 0);
        x.off(0);
        Due.thrown("off again", IllegalStateException.class, () -> x.off(0));
        x.run(16);
        x.note(1, 1);
        x.reset();
        Due.thrown("behind reset()", IllegalStateException.class, () -> x.off(0));
        x.note(1, 1);
        x.compile();
        Due.thrown("behind compile()", IllegalStateException.class, () -> x.off(0));
        x.note(1, 1);
        x.voices(2);
        Due.thrown("behind voices()", IllegalStateException.class, () -> x.off(0));
    }

    private static void voicesThatThereAre() {
        Due.by("IndexOutOfBoundsException: there is no such voice (active)");
        for (int n = 1; n <= 4; n++) {
            PatchVoices x = new PatchVoices();
            x.voices(n);
            for (int v : new int[] {-1, n, n + 1, 4, MIN, MAX}) {
                Due.thrown("active(" + v + ") of " + n, IndexOutOfBoundsException.class,
                        () -> x.active(v));
            }
            for (int v = 0; v < n; v++) {
                Due.is("active(" + v + ") of " + n, x.active(v), false);
            }
        }
    }

    private static final String FOUR_KNOBS = "a=kno(0);b=kno(1);c=kno(2);d=kno(3);";

    private static void knobsAre(String what, PatchVoices x, int... want) {
        x.run(1);
        for (int k = 0; k < 4; k++) {
            Due.is(what + ": knob " + k, x.tap(0, k), want[k]);
        }
    }

    private static void knobsZeroToThree() {
        Due.by("IndexOutOfBoundsException: k is not 0 .. 3");
        PatchVoices x = Due.playing(FOUR_KNOBS, false);
        x.note(1, 1);
        for (int k : new int[] {-1, 4, -4, 5, MIN, MAX}) {
            Due.thrown("knob(" + k + ", 9)", IndexOutOfBoundsException.class, () -> x.knob(k, 9));
        }
        knobsAre("at first", x, 0, 0, 0, 0);
        x.knob(0, MIN);
        x.knob(3, MAX);
        knobsAre("turned", x, MIN, 0, 0, MAX);
        x.knob(1, -1);
        x.knob(2, 1);
        x.knob(0, 0);
        knobsAre("turned", x, 0, -1, 1, MAX);
    }

    private static void knobsFromNowOn() {
        Due.by("Knob k is v from now on (at first 0)");
        PatchVoices x = new PatchVoices();
        x.knob(1, 5);
        Due.compile(x, FOUR_KNOBS);
        x.note(1, 1);
        knobsAre("turned before there was a program", x, 0, 5, 0, 0);
        x.knob(1, 6);
        Due.is("the latest sample is as before", x.tap(0, 1), 5);
        knobsAre("the next sample", x, 0, 6, 0, 0);
        x.knob(3, 7);
        Due.is("out(0) is as before", x.out(0), 0);
        x.knob(0, -4);
        x.knob(2, 8);
        x.note(1, 1);
        knobsAre("a note leaves knobs", x, -4, 6, 8, 7);
        x.reset();
        x.note(1, 1);
        knobsAre("reset() leaves knobs", x, -4, 6, 8, 7);
        x.voices(3);
        x.note(1, 1);
        knobsAre("voices() leaves knobs", x, -4, 6, 8, 7);
        x.compile();
        x.note(1, 1);
        knobsAre("compile() leaves knobs", x, -4, 6, 8, 7);
        x.erase();
        x.compile();
        knobsAre("a fault leaves knobs", x, -4, 6, 8, 7);
    }
}
