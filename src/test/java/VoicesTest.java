/** Promises 10 (voices), 11 (note), 12 (off), 13 (active) and 14 (knob). */
public final class VoicesTest {
    public static void main(String[] args) {
        voicesRefuse();
        voicesAreSilent();
        notesTakeTheLeastFirst();
        notesTakeTheOldestWhenAllAreActive();
        notesTakeTheLongestQuiet();
        quietVoicesTie();
        quietBeginsAnew();
        notesRefuse();
        notesBeginAnew();
        offRefuses();
        activeUntilSixteenZeros();
        zerosCountBehindTheGate();
        quietVoicesSoundOn();
        knobs();
        Due.end("VoicesTest");
    }

    private static void voicesRefuse() {
        PatchVoices x = Due.playing("a=pit();", false);
        x.note(3, 1);
        x.run(1);
        for (int n : new int[] {0, -1, 5, Integer.MAX_VALUE, Integer.MIN_VALUE}) {
            Due.thrown("voices(" + n + ")", IllegalArgumentException.class, () -> x.voices(n));
        }
        Due.is("nothing changed", x.out(0), 3);
        Due.is("nothing changed", x.active(0), true);
    }

    private static void voicesAreSilent() {
        PatchVoices x = Due.playing("a=pit();", false);
        for (int n = 4; n >= 1; n--) {
            x.voices(n);
            int none = n;
            Due.thrown("no voice " + n, IndexOutOfBoundsException.class, () -> x.active(none));
            for (int v = 0; v < n; v++) {
                int voice = v;
                Due.is("not active", x.active(v), false);
                Due.thrown("not taken", IllegalStateException.class, () -> x.off(voice));
            }
            for (int v = 0; v < n; v++) {
                Due.is("note()", x.note(1, 1), v);
                Due.is("active", x.active(v), true);
            }
            Due.is("all sound", Due.samples(x, 1)[0], n);
        }
        x.voices(1);
        Due.thrown("the same number silences too", IndexOutOfBoundsException.class, () -> x.out(0));
        Due.is("the program stays", x.steps(), 1);
    }

    private static void notesTakeTheLeastFirst() {
        PatchVoices x = Due.playing("a=pit();", false);
        x.voices(3);
        Due.is("first", x.note(0, 1), 0);
        x.off(0);
        x.run(40);
        Due.is("0 is quiet", x.active(0), false);
        Due.is("never taken before quiet", x.note(5, 1), 1);
        Due.is("never taken before quiet", x.note(5, 1), 2);
        Due.is("quiet before active", x.note(5, 1), 0);
        Due.is("oldest taking", x.note(5, 1), 1);
        x.reset();
        Due.is("since all was silent", x.note(5, 1), 0);
        Due.is("since all was silent", x.note(5, 1), 1);
    }

    private static void notesTakeTheOldestWhenAllAreActive() {
        PatchVoices x = Due.playing("a=pit();", false);
        x.voices(4);
        for (int v = 0; v < 4; v++) {
            x.note(1, 1);
        }
        // gates that are off do not matter while the voices are active
        x.off(2);
        for (int i = 0; i < 9; i++) {
            Due.is("note " + i, x.note(1, 1), i % 4);
        }
    }

    private static void notesTakeTheLongestQuiet() {
        PatchVoices x = Due.playing("a=gat();", false);
        x.voices(4);
        for (int v = 0; v < 4; v++) {
            x.note(1, 1);
        }
        for (int v : new int[] {2, 0, 3}) {
            x.off(v);
            x.run(1);
        }
        x.run(20);
        Due.is("1 is active", x.active(1), true);
        Due.is("longest quiet", x.note(1, 1), 2);
        Due.is("next", x.note(1, 1), 0);
        Due.is("next", x.note(1, 1), 3);
        Due.is("then the oldest taking", x.note(1, 1), 1);
        Due.is("then the next", x.note(1, 1), 2);
    }

    private static void quietVoicesTie() {
        PatchVoices x = Due.playing("a=gat();", false);
        x.voices(4);
        for (int v = 0; v < 4; v++) {
            x.note(1, 1);
        }
        x.off(3);
        x.off(1);
        x.run(3);
        x.off(2);
        x.off(0);
        x.run(30);
        for (int want : new int[] {1, 3, 0, 2}) {
            Due.is("the least of several", x.note(1, 1), want);
        }
    }

    private static void quietBeginsAnew() {
        PatchVoices x = Due.playing("a=gat();", false);
        x.voices(2);
        x.note(1, 1);
        x.off(0);
        x.run(64);
        x.run(64);
        x.note(1, 1);
        Due.is("0 again", x.note(1, 1), 0);
        x.off(1);
        x.run(2);
        x.off(0);
        x.run(20);
        // 0 was quiet for long before, but 1 is now for two samples more
        Due.is("quiet since the latest taking", x.note(1, 1), 1);
    }

    private static void notesRefuse() {
        PatchVoices x = Due.playing("a=vel();", false);
        for (int s : new int[] {0, -1, 128, Integer.MIN_VALUE, Integer.MAX_VALUE}) {
            Due.thrown("note(1, " + s + ")", IllegalArgumentException.class, () -> x.note(1, s));
            Due.is("not taken", x.active(0), false);
        }
        Due.is("strength 1", x.note(Integer.MIN_VALUE, 1), 0);
        Due.is("vel", Due.samples(x, 1)[0], 512);
        Due.is("strength 127", x.note(1, 127), 0);
        x.run(1);
        Due.is("vel", x.tap(0, 0), 65024);
    }

    private static void notesBeginAnew() {
        PatchVoices x = Due.playing("p=pit();s=saw(p);g=gat();o=mul(s,g);", false);
        x.note(655360, 1);
        Due.all("samples", Due.samples(x, 3), 10, 20, 30);
        x.off(0);
        x.run(20);
        Due.is("quiet", x.active(0), false);
        x.note(65536, 1);
        Due.is("active again", x.active(0), true);
        Due.thrown("no sample yet", java.util.NoSuchElementException.class, () -> x.tap(0, 0));
        Due.all("samples", Due.samples(x, 3), 1, 2, 3);
        x.off(0);
        x.run(15);
        Due.is("zeros before the note do not count", x.active(0), true);
        x.run(1);
        Due.is("quiet again", x.active(0), false);
    }

    private static void offRefuses() {
        PatchVoices x = Due.playing("a=gat();", false);
        x.voices(2);
        x.note(1, 1);
        for (int v : new int[] {-1, 2, 3, 4, Integer.MAX_VALUE, Integer.MIN_VALUE}) {
            Due.thrown("off(" + v + ")", IndexOutOfBoundsException.class, () -> x.off(v));
            Due.thrown("active(" + v + ")", IndexOutOfBoundsException.class, () -> x.active(v));
        }
        Due.thrown("off of one not taken", IllegalStateException.class, () -> x.off(1));
        x.off(0);
        Due.thrown("off again", IllegalStateException.class, () -> x.off(0));
        x.run(20);
        Due.thrown("off of a quiet one", IllegalStateException.class, () -> x.off(0));
        x.note(1, 1);
        x.note(1, 1);
        x.off(0);
        x.off(1);
    }

    private static void activeUntilSixteenZeros() {
        PatchVoices x = Due.playing("k=kno(0);", false);
        x.note(1, 1);
        x.off(0);
        x.run(15);
        x.knob(0, 1);
        x.run(1);
        x.knob(0, 0);
        x.run(15);
        Due.is("15 zeros in a row", x.active(0), true);
        x.run(0);
        Due.is("15 zeros in a row", x.active(0), true);
        x.run(1);
        Due.is("16 zeros in a row", x.active(0), false);
    }

    private static void zerosCountBehindTheGate() {
        PatchVoices x = Due.playing("k=kno(0);", false);
        x.note(1, 1);
        x.run(64);
        Due.is("zeros under the gate", x.active(0), true);
        x.off(0);
        Due.is("off alone", x.active(0), true);
        x.run(15);
        Due.is("15 zeros", x.active(0), true);
        x.run(1);
        Due.is("16 zeros", x.active(0), false);
        // what is added up may be 0 while no voice's value is
        PatchVoices y = Due.playing("p=pit();", false);
        y.voices(2);
        y.note(5, 1);
        y.note(-5, 1);
        y.off(0);
        y.off(1);
        Due.is("sum", Due.samples(y, 20)[19], 0);
        Due.is("5 is active", y.active(0), true);
        Due.is("-5 is active", y.active(1), true);
    }

    private static void quietVoicesSoundOn() {
        PatchVoices x = Due.playing("k=kno(0);s=saw(65536);o=mul(k,s);", false);
        x.note(1, 1);
        x.off(0);
        x.run(16);
        Due.is("quiet", x.active(0), false);
        x.knob(0, 65536);
        Due.all("a taken voice goes on", Due.samples(x, 2), 17, 18);
        Due.is("and stays quiet", x.active(0), false);
        Due.is("its tap", x.tap(0, 1), 18);
    }

    private static void knobs() {
        PatchVoices x = Due.playing("a=kno(0);b=kno(1);c=kno(2);d=kno(3);", false);
        x.note(1, 1);
        for (int k : new int[] {-1, 4, Integer.MIN_VALUE, Integer.MAX_VALUE}) {
            Due.thrown("knob(" + k + ", 1)", IndexOutOfBoundsException.class, () -> x.knob(k, 1));
        }
        int[] turned = {Integer.MAX_VALUE, Integer.MIN_VALUE, 0, -1};
        for (int k = 0; k < 4; k++) {
            x.knob(k, turned[k]);
        }
        x.run(1);
        for (int k = 0; k < 4; k++) {
            Due.is("knob " + k, x.tap(0, k), turned[k]);
        }
        x.reset();
        x.voices(2);
        x.note(1, 1);
        x.run(1);
        Due.is("knobs stay", x.tap(0, 1), Integer.MIN_VALUE);
    }
}
