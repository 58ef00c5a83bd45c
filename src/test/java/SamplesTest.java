import java.util.NoSuchElementException;

/** Promises 15 (run), 16 (out), 17 (tap) and 18 (reset). */
public final class SamplesTest {
    public static void main(String[] args) {
        runRefuses();
        runGoesOn();
        samplesAreAddedUp();
        outIsOfTheLatestRun();
        tapRefuses();
        tapIsOfTheVoice();
        resetIsSilent();
        optimisedSoundsTheSame();
        Due.end("SamplesTest");
    }

    private static void runRefuses() {
        PatchVoices x = new PatchVoices();
        Due.thrown("run(1) without a program", IllegalStateException.class, () -> x.run(1));
        Due.thrown("run(0) without a program", IllegalStateException.class, () -> x.run(0));
        Due.thrown("run(65) without a program", IllegalArgumentException.class, () -> x.run(65));
        Due.compile(x, "a=saw(65536);");
        x.note(1, 1);
        x.run(2);
        for (int n : new int[] {-1, 65, Integer.MIN_VALUE, Integer.MAX_VALUE}) {
            Due.thrown("run(" + n + ")", IllegalArgumentException.class, () -> x.run(n));
        }
        Due.is("out(1) stays", x.out(1), 2);
        Due.is("the voice stays", Due.samples(x, 1)[0], 3);
    }

    private static void runGoesOn() {
        PatchVoices x = Due.playing("a=saw(65536);", false);
        Due.all("no voice", Due.samples(x, 3), 0, 0, 0);
        x.note(1, 1);
        Due.is("out(63)", Due.samples(x, 64)[63], 64);
        x.run(0);
        Due.is("65", Due.samples(x, 1)[0], 65);
    }

    private static void samplesAreAddedUp() {
        PatchVoices x = Due.playing("p=pit();", false);
        int max = Integer.MAX_VALUE;
        int min = Integer.MIN_VALUE;
        int[][] rows = {
            {32767, 32767}, {32768, 32767}, {-32768, -32768}, {-32769, -32768}, {max, 32767},
            {min, -32768}, {max, max, max, max, 32767}, {min, min, min, min, -32768},
            {max, min, 0, -1},
            {30000, 30000, -30000, 30000}, {40000, -10000, 30000}, {max, max, min, min, -2},
        };
        for (int[] row : rows) {
            x.voices(4);
            for (int i = 0; i < row.length - 1; i++) {
                x.note(row[i], 1);
            }
            Due.is("sum", Due.samples(x, 1)[0], row[row.length - 1]);
        }
    }

    private static void outIsOfTheLatestRun() {
        PatchVoices x = Due.playing("a=saw(65536);", false);
        Due.thrown("out(0) before run()", IndexOutOfBoundsException.class, () -> x.out(0));
        x.note(1, 1);
        x.run(10);
        x.run(3);
        Due.is("out(0)", x.out(0), 11);
        Due.is("out(2)", x.out(2), 13);
        for (int i : new int[] {-1, 3, 9, 64, Integer.MAX_VALUE, Integer.MIN_VALUE}) {
            Due.thrown("out(" + i + ")", IndexOutOfBoundsException.class, () -> x.out(i));
        }
        x.note(1, 1);
        x.off(0);
        x.knob(0, 1);
        Due.is("out(0) stays", x.out(0), 11);
        x.run(0);
        Due.thrown("out(0) of no samples", IndexOutOfBoundsException.class, () -> x.out(0));
    }

    private static void tapRefuses() {
        PatchVoices x = Due.playing(
                "a=pit();b=pit();c=add(1,2);d=add(a,c);e=noi();f=add(d,b);", true);
        x.voices(2);
        Due.thrown("not taken", NoSuchElementException.class, () -> x.tap(0, 0));
        x.note(7, 1);
        Due.thrown("no sample", NoSuchElementException.class, () -> x.tap(0, 0));
        x.run(0);
        Due.thrown("no sample still", NoSuchElementException.class, () -> x.tap(0, 0));
        x.run(1);
        Due.is("tap(0, 0)", x.tap(0, 0), 7);
        Due.is("tap(0, 3)", x.tap(0, 3), 10);
        Due.is("tap(0, 5)", x.tap(0, 5), 17);
        for (int m : new int[] {1, 2, 4}) {
            Due.thrown("not kept: " + m, NoSuchElementException.class, () -> x.tap(0, m));
        }
        for (int m : new int[] {-1, 6, 24, Integer.MAX_VALUE, Integer.MIN_VALUE}) {
            Due.thrown("tap(0, " + m + ")", IndexOutOfBoundsException.class, () -> x.tap(0, m));
            Due.thrown("tap(1, " + m + ")", IndexOutOfBoundsException.class, () -> x.tap(1, m));
        }
        for (int v : new int[] {-1, 2, 3, 4, Integer.MAX_VALUE, Integer.MIN_VALUE}) {
            Due.thrown("tap(" + v + ", 0)", IndexOutOfBoundsException.class, () -> x.tap(v, 0));
            Due.thrown("tap(" + v + ", 1)", IndexOutOfBoundsException.class, () -> x.tap(v, 1));
        }
        Due.thrown("tap(1, 0)", NoSuchElementException.class, () -> x.tap(1, 0));
    }

    private static void tapIsOfTheVoice() {
        PatchVoices x = Due.playing("p=pit();s=saw(p);d=del(s,2);", false);
        x.voices(2);
        x.note(65536, 1);
        x.run(2);
        x.note(131072, 1);
        x.run(3);
        Due.is("tap(0, 1)", x.tap(0, 1), 5);
        Due.is("tap(0, 2)", x.tap(0, 2), 3);
        Due.is("tap(1, 1)", x.tap(1, 1), 6);
        Due.is("tap(1, 2)", x.tap(1, 2), 2);
        Due.is("out(2)", x.out(2), 5);
        x.run(0);
        Due.is("run(0) keeps the latest sample", x.tap(0, 1), 5);
    }

    private static void resetIsSilent() {
        PatchVoices x = Due.playing("k=kno(1);s=saw(k);", false);
        x.voices(2);
        x.knob(1, 65536);
        x.note(1, 1);
        x.note(1, 1);
        x.run(3);
        x.reset();
        Due.thrown("out(0)", IndexOutOfBoundsException.class, () -> x.out(0));
        Due.thrown("tap(0, 0)", NoSuchElementException.class, () -> x.tap(0, 0));
        Due.thrown("off(0)", IllegalStateException.class, () -> x.off(0));
        Due.is("active(0)", x.active(0), false);
        Due.is("active(1)", x.active(1), false);
        Due.is("the program stays", x.steps(), 2);
        Due.all("no voice", Due.samples(x, 2), 0, 0);
        Due.is("voices stay", x.note(1, 1), 0);
        Due.is("voices stay", x.note(1, 1), 1);
        Due.all("memories as at first, knobs as they were", Due.samples(x, 2), 2, 4);
        PatchVoices y = new PatchVoices();
        y.note(1, 1);
        y.reset();
        Due.is("reset() without a program", y.active(0), false);
        Due.thrown("still no program", IllegalStateException.class, () -> y.run(1));
    }

    private static void optimisedSoundsTheSame() {
        String text = "p=pit();f=mul(p,70000);g=mul(70000,p);s=saw(f);t=sqr(g);m=mix(s,t,h);"
                + "h=add(20000,3000);y=gat();e=env(y,9000,700,a);a=sub(2000,1500);v=mul(m,e);"
                + "w=add(v,x);x=mul(d,z);z=add(h,7000);d=del(w,17);l=low(w,30000,20000);";
        PatchVoices plain = Due.playing(text, false);
        PatchVoices lean = Due.playing(text, true);
        Due.is("fewer steps", lean.steps() < plain.steps(), true);
        for (PatchVoices x : new PatchVoices[] {plain, lean}) {
            x.voices(2);
            x.note(30000000, 100);
        }
        // seven runs: an object answers 512 calls
        for (int i = 0; i < 7; i++) {
            Due.all("run " + i, Due.samples(lean, 64), Due.samples(plain, 64));
            if (i == 2) {
                plain.note(-123456789, 1);
                lean.note(-123456789, 1);
                plain.off(0);
                lean.off(0);
            }
        }
    }
}
