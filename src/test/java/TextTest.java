/** Promises 1 (a new object), 2 (type) and 3 (erase). */
public final class TextTest {
    private static final int NONE = PatchVoices.NONE;

    public static void main(String[] args) {
        aNewObjectHasNothing();
        aNewObjectDoesNotOptimise();
        typeTakesTheLowestBytes();
        typeRefuses();
        typeStopsAtThreeHundred();
        eraseEmpties();
        textAndProgramAreApart();
        Due.end("TextTest");
    }

    private static void aNewObjectHasNothing() {
        PatchVoices x = new PatchVoices();
        Due.is("new erase()", x.erase(), 0);
        Due.is("new steps()", x.steps(), 0);
        Due.is("new slots()", x.slots(), 0);
        Due.is("new named()", x.named(), NONE);
        Due.is("new active(0)", x.active(0), false);
        Due.thrown("new active(1)", IndexOutOfBoundsException.class, () -> x.active(1));
        Due.thrown("new step(0, 0)", IndexOutOfBoundsException.class, () -> x.step(0, 0));
        Due.thrown("new off(0)", IllegalStateException.class, () -> x.off(0));
        Due.thrown("new off(1)", IndexOutOfBoundsException.class, () -> x.off(1));
        Due.thrown("new run(0)", IllegalStateException.class, () -> x.run(0));
        Due.thrown("new out(0)", IndexOutOfBoundsException.class, () -> x.out(0));
        Due.thrown("new tap(0, 0)", IndexOutOfBoundsException.class, () -> x.tap(0, 0));
        Due.is("new compile()", x.compile(), -1);
    }

    private static void aNewObjectDoesNotOptimise() {
        PatchVoices x = new PatchVoices();
        Due.compile(x, "a=kno(0);b=kno(1);c=kno(2);d=kno(3);");
        Due.is("steps() of a new object's first program", x.steps(), 4);
        x.note(1, 1);
        x.run(1);
        for (int m = 0; m < 4; m++) {
            Due.is("knob " + m + " at first", x.tap(0, m), 0);
        }
    }

    private static void typeTakesTheLowestBytes() {
        PatchVoices x = new PatchVoices();
        Due.is("type of one", x.type(Due.packed("a"), 1), 1);
        Due.is("type of 8", x.type(Due.packed("=pit();b"), 8), 9);
        // the bytes above the n lowest do not count, whatever they are
        Due.is("type of 3 under others", x.type(0xFF00FF1F7F000000L | Due.packed("=gt"), 3), 12);
        Due.is("compile()", x.compile(), -1 - 11);
        x.erase();
        Due.is("type under others", x.type(0x8000000000000000L | Due.packed("a=gat()"), 7), 7);
        Due.is("type of the last", x.type(0xFFFFFFFFFFFFFF00L | ';', 1), 8);
        Due.is("compile()", x.compile(), 0);
        Due.is("the kind of what was typed", x.step(0, 0), 9);
    }

    private static void typeRefuses() {
        PatchVoices x = new PatchVoices();
        Due.type(x, "a=pit();");
        long good = Due.packed("b=gat();");
        for (int n : new int[] {0, -1, 9, 16, 72, Integer.MIN_VALUE, Integer.MAX_VALUE}) {
            Due.is("type of n = " + n, x.type(good, n), NONE);
        }
        for (int i = 0; i < 8; i++) {
            long hole = good & ~(0xFFL << 8 * i);
            for (long code : new long[] {0, 31, 127, 128, 255}) {
                Due.is("type of code " + code, x.type(hole | code << 8 * i, 8), NONE);
            }
            Due.is("type of 32", x.type(hole | 32L << 8 * i, 8), 16);
            Due.is("type of 126", x.type(hole | 126L << 8 * i, 8), 24);
            Due.is("erase()", x.erase(), 24);
            Due.type(x, "a=pit();");
        }
        Due.is("the text is as before", x.compile(), 0);
        Due.is("its length", x.erase(), 8);
    }

    private static void typeStopsAtThreeHundred() {
        PatchVoices x = new PatchVoices();
        Due.is("type of 296", Due.type(x, " ".repeat(296)), 296);
        Due.is("301", x.type(Due.packed("     "), 5), NONE);
        Due.is("304", x.type(Due.packed("        "), 8), NONE);
        Due.is("299", x.type(Due.packed("   "), 3), 299);
        Due.is("301", x.type(Due.packed("  "), 2), NONE);
        Due.is("300", x.type(' ', 1), 300);
        Due.is("301", x.type(' ', 1), NONE);
        Due.is("compile() of 300 blanks", x.compile(), -301);
        Due.is("erase() of 300", x.erase(), 300);
        Due.is("type behind erase()", x.type('a', 1), 1);
    }

    private static void eraseEmpties() {
        PatchVoices x = new PatchVoices();
        Due.type(x, "a=pit();b");
        Due.is("erase()", x.erase(), 9);
        Due.is("erase() again", x.erase(), 0);
        Due.is("compile() of no text", x.compile(), -1);
        Due.type(x, "a=gat();");
        Due.is("what was erased does not come back", x.compile(), 0);
    }

    private static void textAndProgramAreApart() {
        PatchVoices x = Due.playing("a=pit();", false);
        x.note(77, 1);
        x.erase();
        Due.type(x, "b=gat();c=vel();");
        Due.is("steps() stay while the text changes", x.steps(), 1);
        Due.all("samples", Due.samples(x, 2), 77, 77);
        Due.thrown("tap of the text's module", IndexOutOfBoundsException.class, () -> x.tap(0, 1));
    }
}
