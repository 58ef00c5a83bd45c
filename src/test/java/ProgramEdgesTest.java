/** The edges of the program: order, stands, kept modules, steps, slots; promises 6 to 9. */
public final class ProgramEdgesTest {
    private static final int NONE = PatchVoices.NONE;
    private static final int PUT = 20;
    private static final String[] WORDS =
            "add sub mul mix lim cmp sel kno pit gat vel saw sqr tri bow noi env low del hld"
                    .split(" ");
    private static final int[] INPUTS = {
        2, 2, 2, 3, 3, 2, 3, 1, 0, 0, 0, 1, 1, 1, 1, 0, 4, 3, 2, 2
    };

    public static void main(String[] args) {
        theLeastThatIsReady();
        cordsIntoADelDoNotCount();
        notOptimisedKeepsAll();
        kindsBelowSevenOfNumbersAlone();
        kindsBelowElevenThatAreTheSame();
        theSameInputs();
        ofAddAndMulInEitherWay();
        theEarliestForWhichItselfStands();
        whatTheOutputNeeds();
        oneStepForEachAndThePuts();
        optimiseFromTheNextCompile();
        stepsWithoutAProgram();
        theStepsThatThereAre();
        whatIsZeroToTen();
        slotsAndNumbersOfEveryInput();
        ofDelAndItsPut();
        theLeastFreeSlot();
        resultsThatPutsRead();
        theSlotOfTheOutput();
        slotsThatHaveResults();
        slotsAreOfThisProgram();
        Due.end("ProgramEdgesTest");
    }

    /** The modules of the steps, puts with 100 more. */
    private static void order(String text, boolean optimised, int... want) {
        PatchVoices x = Due.playing(text, optimised);
        int[] got = new int[x.steps()];
        for (int i = 0; i < got.length; i++) {
            got[i] = x.step(i, 1) + (x.step(i, 0) == PUT ? 100 : 0);
        }
        Due.all("modules of " + text, got, want);
    }

    private static void slotsOf(String text, boolean optimised, int... want) {
        PatchVoices x = Due.playing(text, optimised);
        int[] got = new int[x.steps()];
        int most = NONE;
        for (int i = 0; i < got.length; i++) {
            got[i] = x.step(i, 2);
            most = Math.max(most, got[i]);
        }
        Due.all("slots of " + text, got, want);
        Due.is("slots() of " + text, x.slots(), most + 1);
    }

    /** What = 0 .. 10 of a step. */
    private static void whole(PatchVoices x, int i, int... want) {
        for (int what = 0; what <= 10; what++) {
            Due.is("step(" + i + ", " + what + ")", x.step(i, what), want[what]);
        }
    }

    private static void theLeastThatIsReady() {
        Due.by("again and again the least one that is not in it yet and all of whose cords .. come"
                + " from modules in it");
        order("a=pit();b=gat();c=vel();", false, 0, 1, 2);
        order("a=saw(b);b=saw(c);c=pit();", false, 2, 1, 0);
        order("a=saw(c);b=pit();c=gat();", false, 1, 2, 0);
        // behind c both a and d are ready: the least one, although d waits as long
        order("b=pit();a=saw(c);c=gat();d=saw(c);e=pit();", false, 0, 2, 1, 3, 4);
        // all of its cords, not one of them
        order("a=env(b,c,d,e);b=pit();c=saw(b);d=gat();e=vel();f=noi();", false, 1, 2, 3, 4, 0, 5);
        order("a=add(1,d);b=add(a,1);c=pit();d=add(e,c);e=gat();", false, 2, 4, 3, 0, 1);
    }

    private static void cordsIntoADelDoNotCount() {
        Due.by("all of whose cords, but those into a del, come from modules in it");
        order("a=del(b,1);b=saw(c);c=pit();", false, 0, 2, 1, 100);
        order("a=del(a,1);", false, 0, 100);
        // hld has two inputs as well, and waits for both
        order("a=hld(b,c);b=pit();c=gat();d=del(b,1);", false, 1, 2, 0, 3, 103);
        // a cord from a del is waited for
        order("a=saw(b);c=pit();b=del(a,1);", false, 1, 2, 0, 102);
    }

    private static void notOptimisedKeepsAll() {
        Due.by("If it is not to be OPTIMISED, all modules are KEPT as they are");
        String text = "a=pit();b=pit();c=add(1,2);d=add(a,c);e=add(b,c);f=noi();o=add(1,1);";
        order(text, false, 0, 1, 2, 3, 4, 5, 6);
        order(text, true);
        PatchVoices x = Due.playing(text, false);
        Due.is("a cord is no number", x.step(3, 4) != NONE && x.step(3, 8) == 0, true);
        x.note(9, 1);
        x.run(1);
        for (int m = 0; m < 7; m++) {
            int module = m;
            Due.same("tap(0, " + m + ")", Due.answer(x, y -> y.tap(0, module)),
                    Integer.toString(new int[] {9, 9, 3, 12, 12, -19268, 2}[m]));
        }
    }

    private static String call(int kind, String input) {
        int n = INPUTS[kind];
        return WORDS[kind] + "(" + (n == 0 ? "" : input + ("," + input).repeat(n - 1)) + ");";
    }

    private static void kindsBelowSevenOfNumbersAlone() {
        Due.by("a module of a kind below 7 with numbers alone for inputs has its value stand for"
                + " it, a number");
        for (int kind = 0; kind < 20; kind++) {
            PatchVoices x = Due.playing("a=" + call(kind, "3") + "o=saw(a);", true);
            boolean isNumber = kind < 7;
            Due.is("saw reads a slot of " + WORDS[kind],
                    x.step(isNumber ? 0 : 1, 3), isNumber ? NONE : 0);
            Due.is("steps() of " + WORDS[kind], x.steps(), isNumber ? 1 : kind == 18 ? 3 : 2);
            for (int j = 0; j < INPUTS[kind] && kind < 7; j++) {
                // one cord among numbers is enough for it to stand itself
                String inputs = "3,".repeat(j) + "p" + ",3".repeat(INPUTS[kind] - 1 - j);
                PatchVoices y = Due.playing(
                        "p=pit();a=" + WORDS[kind] + "(" + inputs + ");o=saw(a);", true);
                Due.is("steps() of " + WORDS[kind] + "(" + inputs + ")", y.steps(), 3);
            }
        }
        Due.by("a cord counts as what STANDS for the module that it comes from");
        order("d=add(c,c);c=add(b,b);b=add(a,a);a=add(1,1);o=saw(d);", true, 4);
        PatchVoices x = Due.playing("d=add(c,c);c=add(b,b);b=add(a,a);a=add(1,1);o=saw(d);", true);
        Due.is("the number at the end", x.step(0, 7), 16);
        // what a del has stands itself, even when only a number goes into it
        order("a=add(1,1);d=del(a,1);o=add(d,a);", true, 1, 2, 101);
    }

    private static void kindsBelowElevenThatAreTheSame() {
        Due.by("a module of a kind below 11 that is of the same kind and has the same inputs .. has"
                + " the earliest such one stand for it");
        for (int kind = 0; kind < 20; kind++) {
            String input = kind == 7 ? "3" : "p";
            String one = kind == 18 ? "del(p,3);" : call(kind, input);
            PatchVoices x = Due.playing("p=noi();a=" + one + "b=" + one + "o=sub(a,b);", true);
            boolean reads = kind != 7 && INPUTS[kind] > 0;
            int want = (reads ? 1 : 0) + (kind < 11 ? 2 : kind == 18 ? 5 : 3);
            Due.is("steps() of two " + WORDS[kind], x.steps(), want);
            int sub = kind == 18 ? 3 : x.steps() - 1;
            Due.is("both inputs come from one slot", x.step(sub, 3) == x.step(sub, 4), kind < 11);
        }
        order("a=pit();b=gat();c=vel();o=mix(a,b,c);", true, 0, 1, 2, 3);
    }

    private static void sameOrNot(String one, String other, boolean same) {
        String text = "p=pit();q=gat();r=vel();a=" + one + ";b=" + other + ";c=add(1,2);";
        // the modules p, q and r are all needed, so that only a and b may become one
        String all = text + "x=env(p,q,r,0);y=sub(a,b);o=sub(x,y);";
        Due.is("steps() of " + one + " and " + other, Due.playing(all, true).steps(),
                same ? 7 : 8);
    }

    private static void theSameInputs() {
        Due.by("is of the same kind and has the same inputs");
        sameOrNot("sub(p,5)", "sub(p,5)", true);
        sameOrNot("sub(p,5)", "sub(p,005)", true);
        sameOrNot("sub(p,0)", "sub(p,-0)", true);
        sameOrNot("sub(p,3)", "sub(p,c)", true);
        sameOrNot("sub(p,5)", "sub(p,6)", false);
        sameOrNot("sub(p,5)", "sub(p,-5)", false);
        sameOrNot("sub(p,5)", "sub(q,5)", false);
        sameOrNot("sub(p,0)", "sub(p,p)", false);
        sameOrNot("sub(p,q)", "sub(p,r)", false);
        sameOrNot("sub(p,5)", "add(p,5)", false);
        sameOrNot("cmp(p,5)", "sub(p,5)", false);
        sameOrNot("mix(p,q,5)", "mix(p,q,5)", true);
        sameOrNot("mix(p,q,5)", "mix(p,q,6)", false);
        sameOrNot("mix(p,q,r)", "lim(p,q,r)", false);
        sameOrNot("sel(p,q,r)", "sel(p,q,r)", true);
        sameOrNot("sel(p,q,r)", "lim(p,q,r)", false);
        sameOrNot("kno(0)", "kno(0)", true);
        sameOrNot("kno(0)", "kno(1)", false);
        sameOrNot("kno(3)", "kno(003)", true);
    }

    private static void ofAddAndMulInEitherWay() {
        Due.by("(of add and mul in either way)");
        sameOrNot("add(p,q)", "add(q,p)", true);
        sameOrNot("mul(p,q)", "mul(q,p)", true);
        sameOrNot("add(p,5)", "add(5,p)", true);
        sameOrNot("mul(5,p)", "mul(p,5)", true);
        sameOrNot("mul(3,p)", "mul(p,c)", true);
        sameOrNot("add(p,q)", "mul(q,p)", false);
        sameOrNot("sub(p,q)", "sub(q,p)", false);
        sameOrNot("cmp(p,q)", "cmp(q,p)", false);
        sameOrNot("mix(p,q,r)", "mix(q,p,r)", false);
        sameOrNot("lim(p,q,r)", "lim(p,r,q)", false);
        sameOrNot("lim(p,q,r)", "lim(q,p,r)", false);
        sameOrNot("sel(p,q,r)", "sel(p,r,q)", false);
        sameOrNot("add(p,p)", "add(p,q)", false);
        sameOrNot("add(p,q)", "add(p,p)", false);
        sameOrNot("add(p,q)", "add(q,q)", false);
        sameOrNot("mul(p,p)", "mul(q,p)", false);
        sameOrNot("add(p,5)", "add(5,q)", false);
        sameOrNot("mul(p,5)", "mul(q,5)", false);
        sameOrNot("mul(p,5)", "mul(6,p)", false);
    }

    private static void theEarliestForWhichItselfStands() {
        Due.by("as one earlier in the ORDER for which itself stands has the earliest such one stand"
                + " for it");
        order("a=pit();b=pit();c=pit();d=pit();o=env(a,b,c,d);", true, 0, 4);
        order("a=pit();b=pit();c=saw(a);d=saw(b);o=add(c,d);", true, 0, 2, 3, 4);
        // in the order a comes behind c
        order("a=sub(d,1);b=pit();c=sub(b,1);d=pit();o=mul(a,c);", true, 1, 2, 4);
        // b stands for d; by that e is the same as c
        order("b=pit();c=sub(b,1);d=pit();e=sub(d,1);f=sub(d,2);g=sub(b,2);o=env(c,e,f,g);", true,
                0, 1, 4, 6);
        // the output itself may have another one stand for it
        order("a=pit();b=gat();c=pit();", true, 0);
        PatchVoices x = Due.playing("a=pit();b=gat();c=pit();", true);
        x.note(77, 1);
        Due.all("samples", Due.samples(x, 1), 77);
    }

    private static void whatTheOutputNeeds() {
        Due.by("Kept are those modules for which themselves stand and that the output needs: what"
                + " stands for it, and what its inputs come from, those of dels too, and so on");
        order("a=noi();b=pit();", true, 1);
        order("a=noi();b=saw(a);c=pit();", true, 2);
        order("a=noi();b=saw(a);c=saw(b);", true, 0, 1, 2);
        order("n=noi();d=del(n,1);", true, 0, 1, 101);
        order("d=del(n,1);n=noi();m=noi();o=saw(d);", true, 0, 1, 3, 100);
        order("d=del(e,1);e=del(f,1);f=del(g,1);g=saw(h);h=noi();o=saw(d);", true,
                0, 1, 2, 4, 3, 5, 100, 101, 102);
        // what only a module needs that is not kept
        order("a=noi();b=del(a,9);c=saw(b);o=pit();", true, 3);
        order("a=noi();b=mul(a,0);o=sub(b,b);", true, 0, 1, 2);
        order("o=add(1,1);", true);
        order("n=noi();o=kno(0);", true, 1);
        // each of four inputs
        order("a=noi();b=noi();c=noi();d=noi();e=noi();o=env(a,b,c,d);", true, 0, 1, 2, 3, 5);
    }

    private static void oneStepForEachAndThePuts() {
        Due.by("one for each module that is kept, by the order; then one PUT for each del that is"
                + " kept, by the order");
        order("a=del(c,1);b=del(a,1);c=saw(b);", false, 0, 1, 2, 100, 101);
        order("x=saw(b);b=del(a,1);p=pit();a=del(x,1);", false, 1, 0, 2, 3, 101, 103);
        order("x=saw(b);b=del(a,1);c=del(x,1);a=del(x,1);o=saw(x);", true, 1, 0, 3, 4, 101, 103);
        StringBuilder dels = new StringBuilder();
        for (int m = 0; m < 24; m++) {
            dels.append((char) ('a' + m)).append("=del(").append((char) ('a' + (m + 23) % 24));
            dels.append(",5);");
        }
        PatchVoices x = Due.playing(dels.toString(), true);
        Due.is("as many steps as there may be", x.steps(), 48);
        // each put reads the result of a del, so that none leaves its slot
        Due.is("as many slots as there may be", x.slots(), 24);
        Due.is("the last slot", x.step(23, 2), 23);
        Due.is("the slot that the last put reads", x.step(47, 3), 22);
        Due.is("the last step", x.step(47, 1), 23);
        Due.is("the last step's kind", x.step(47, 0), PUT);
        Due.is("the last step before the puts", x.step(23, 0), 18);
        Due.thrown("step(48, 0)", IndexOutOfBoundsException.class, () -> x.step(48, 0));
    }

    private static void optimiseFromTheNextCompile() {
        Due.by("Whether programs are optimised from the next compile() on");
        PatchVoices x = Due.playing("a=noi();b=pit();", false);
        x.note(5, 1);
        x.run(1);
        x.optimise(true);
        Due.is("steps() before compile()", x.steps(), 2);
        Due.is("out(0) before compile()", x.out(0), 5);
        Due.is("active(0) before compile()", x.active(0), true);
        Due.is("tap(0, 0) before compile()", x.tap(0, 0), -19268);
        x.optimise(false);
        x.optimise(true);
        x.compile();
        Due.is("steps() behind compile()", x.steps(), 1);
        x.compile();
        Due.is("steps() behind the next", x.steps(), 1);
        x.optimise(false);
        Due.is("steps() stay", x.steps(), 1);
        x.erase();
        Due.is("a compile() that makes none", x.compile(), -1);
        Due.is("steps() stay", x.steps(), 1);
        Due.compile(x, "a=noi();b=pit();");
        Due.is("steps() not optimised", x.steps(), 2);
        x.optimise(true);
        x.reset();
        x.voices(2);
        Due.compile(x, "a=noi();b=pit();");
        Due.is("optimise() stays over reset() and voices()", x.steps(), 1);
    }

    private static void stepsWithoutAProgram() {
        Due.by("How many steps the program has; 0 without one");
        PatchVoices x = new PatchVoices();
        Due.is("steps()", x.steps(), 0);
        Due.type(x, "a=pit();");
        Due.is("steps() of a text alone", x.steps(), 0);
        Due.compile(x, "a=pit(1);");
        Due.is("steps() behind a fault", x.steps(), 0);
        Due.is("slots() behind a fault", x.slots(), 0);
        Due.compile(x, "a=pit();");
        Due.is("steps() of one", x.steps(), 1);
        x.optimise(true);
        Due.compile(x, "a=add(1,1);");
        Due.is("steps() of a number", x.steps(), 0);
        Due.is("slots() of a number", x.slots(), 0);
        x.note(1, 1);
        Due.all("and yet there is a program", Due.samples(x, 1), 2);
    }

    private static void theStepsThatThereAre() {
        Due.by("IndexOutOfBoundsException: there is no such step");
        String[] texts = {"a=pit();", "a=del(1,1);", "a=pit();b=saw(a);c=del(b,2);", "a=add(1,1);"};
        for (String text : texts) {
            for (boolean optimised : new boolean[] {false, true}) {
                PatchVoices x = Due.playing(text, optimised);
                int n = x.steps();
                for (int i : new int[] {-1, n, n + 1, 48, Integer.MIN_VALUE, Integer.MAX_VALUE}) {
                    for (int what : new int[] {0, 1, 2, 3, 7, 10, 11, -1}) {
                        Due.thrown("step(" + i + ", " + what + ") of " + text,
                                IndexOutOfBoundsException.class, () -> x.step(i, what));
                    }
                }
                for (int i = 0; i < n; i++) {
                    Due.is("step(" + i + ", 1) of " + text, x.step(i, 1) >= 0, true);
                }
            }
        }
        PatchVoices y = new PatchVoices();
        for (int i : new int[] {-1, 0, 1}) {
            Due.thrown("without a program", IndexOutOfBoundsException.class, () -> y.step(i, 0));
        }
        PatchVoices z = Due.playing("a=pit();b=saw(a);c=del(b,2);", false);
        Due.compile(z, "a=pit();");
        Due.thrown("steps of the program before", IndexOutOfBoundsException.class,
                () -> z.step(1, 0));
    }

    private static void whatIsZeroToTen() {
        Due.by("IllegalArgumentException: what is not 0 .. 10");
        PatchVoices x = Due.playing("a=del(1,1);", false);
        for (int i = 0; i < 2; i++) {
            int step = i;
            for (int what : new int[] {-1, 11, -11, 12, Integer.MIN_VALUE, Integer.MAX_VALUE}) {
                Due.thrown("step(" + i + ", " + what + ")", IllegalArgumentException.class,
                        () -> x.step(step, what));
            }
        }
        whole(x, 0, 18, 0, 0, NONE, NONE, NONE, NONE, 0, 1, 0, 0);
        whole(x, 1, PUT, 0, NONE, NONE, NONE, NONE, NONE, 1, 0, 0, 0);
    }

    private static void slotsAndNumbersOfEveryInput() {
        Due.by("3 + j (j from 0 to 3): the slot that its input j is read from, NONE when that is a"
                + " number or none is read; 7 + j: the number that its input j is, when that is"
                + " read .. 0 when it is none");
        for (int kind = 0; kind < 20; kind++) {
            if (kind == 7 || kind == 18) {
                continue;
            }
            int n = INPUTS[kind];
            for (int mask = 0; mask < 1 << n; mask++) {
                inputsOf(kind, n, mask);
            }
        }
        PatchVoices x = Due.playing("a=kno(3);", true);
        whole(x, 0, 7, 0, 0, NONE, NONE, NONE, NONE, 3, 0, 0, 0);
    }

    /** Input j is a cord where the mask has the bit j, else the number -5 - j. */
    private static void inputsOf(int kind, int n, int mask) {
        StringBuilder inputs = new StringBuilder();
        int[] want = {kind, 1, 0, NONE, NONE, NONE, NONE, 0, 0, 0, 0};
        for (int j = 0; j < n; j++) {
            boolean isCord = (mask >> j & 1) == 1;
            inputs.append(j == 0 ? "" : ",").append(isCord ? "p" : Integer.toString(-5 - j));
            want[isCord ? 3 + j : 7 + j] = isCord ? 0 : -5 - j;
        }
        PatchVoices x = Due.playing("p=noi();a=" + WORDS[kind] + "(" + inputs + ");", false);
        whole(x, 1, want);
    }

    private static void ofDelAndItsPut() {
        Due.by("that of a del reads none of them, its put reads the first one alone; (of a del's"
                + " step the second one alone, of its put the first one alone)");
        PatchVoices x = Due.playing("a=noi();b=del(a,64);c=del(-9,1);", false);
        whole(x, 1, 18, 1, 1, NONE, NONE, NONE, NONE, 0, 64, 0, 0);
        whole(x, 2, 18, 2, 1, NONE, NONE, NONE, NONE, 0, 1, 0, 0);
        whole(x, 3, PUT, 1, NONE, 0, NONE, NONE, NONE, 0, 0, 0, 0);
        whole(x, 4, PUT, 2, NONE, NONE, NONE, NONE, NONE, -9, 0, 0, 0);
        PatchVoices y = Due.playing("d=del(b,2);a=add(40,2);b=add(a,a);o=saw(d);", true);
        whole(y, 0, 18, 0, 0, NONE, NONE, NONE, NONE, 0, 2, 0, 0);
        whole(y, 2, PUT, 0, NONE, NONE, NONE, NONE, NONE, 84, 0, 0, 0);
        PatchVoices z = Due.playing("d=del(b,2);a=pit();b=pit();o=saw(d);", true);
        whole(z, 1, 8, 1, 1, NONE, NONE, NONE, NONE, 0, 0, 0, 0);
        whole(z, 3, PUT, 0, NONE, 1, NONE, NONE, NONE, 0, 0, 0, 0);
    }

    private static void theLeastFreeSlot() {
        Due.by("the least one in which no result of an earlier step lies that a later step reads");
        slotsOf("a=pit();", false, 0);
        slotsOf("a=pit();b=gat();", false, 0, 0);
        // the step that reads a result last may have its own in the same slot
        slotsOf("a=noi();b=saw(a);c=saw(b);", false, 0, 0, 0);
        slotsOf("a=noi();b=saw(a);c=saw(a);d=add(b,c);", false, 0, 1, 0, 0);
        slotsOf("a=noi();b=noi();c=saw(b);d=add(a,c);", false, 0, 1, 1, 0);
        slotsOf("a=noi();b=noi();c=noi();d=saw(a);e=add(b,c);o=add(d,e);", false, 0, 1, 2, 0, 1, 0);
        // of two that are free the least one
        slotsOf("a=noi();b=noi();c=noi();d=add(a,b);e=noi();f=add(d,e);o=add(c,f);", false,
                0, 1, 2, 0, 1, 0, 0);
        slotsOf("a=noi();b=noi();c=noi();d=add(b,c);o=add(a,d);", false, 0, 1, 2, 1, 0);
        // a result that no step reads leaves its slot at once
        slotsOf("a=noi();b=noi();c=saw(a);d=noi();o=saw(c);", false, 0, 1, 0, 1, 0);
        slotsOf("a=noi();b=noi();c=saw(a);d=noi();o=saw(c);", true, 0, 0, 0);
        slotsOf("a=noi();b=noi();c=noi();d=noi();o=env(a,b,c,d);", false, 0, 1, 2, 3, 0);
        slotsOf("a=noi();b=noi();c=noi();d=noi();o=env(d,c,b,a);", true, 0, 1, 2, 3, 0);
    }

    private static void resultsThatPutsRead() {
        slotsOf("a=noi();d=del(a,1);b=noi();c=noi();", false, 0, 1, 1, 1, NONE);
        slotsOf("d=del(a,1);a=noi();b=noi();c=saw(d);", false, 0, 1, 2, 0, NONE);
        slotsOf("d=del(d,1);a=noi();b=noi();", false, 0, 1, 1, NONE);
        // a del's own step reads nothing, so that it may not have the slot of what goes into it
        slotsOf("a=noi();d=del(a,1);", false, 0, 1, NONE);
        slotsOf("a=noi();d=del(5,1);", false, 0, 0, NONE);
        slotsOf("a=noi();d=del(a,1);e=del(a,2);o=add(d,e);", true, 0, 1, 2, 1, NONE, NONE);
    }

    private static void theSlotOfTheOutput() {
        Due.by("or that is what stands for the output");
        slotsOf("a=saw(o);b=saw(a);o=noi();", false, 0, 1, 1);
        slotsOf("a=saw(b);b=saw(o);c=saw(a);o=noi();", false, 0, 1, 1, 1);
        slotsOf("d=del(o,1);a=noi();o=saw(d);", false, 0, 1, 0, NONE);
        // a stands for the output, and b is needed by nobody
        slotsOf("a=pit();b=noi();o=pit();", true, 0);
        // not optimised, the last one stands for itself, and the first one leaves its slot
        slotsOf("a=pit();b=noi();o=pit();", false, 0, 0, 0);
    }

    private static void slotsThatHaveResults() {
        Due.by("How many slots there are that some step has its result in");
        Due.is("none", new PatchVoices().slots(), 0);
        Due.is("one", Due.playing("a=pit();b=saw(a);c=saw(b);", false).slots(), 1);
        StringBuilder wide = new StringBuilder();
        for (int m = 0; m < 24; m++) {
            String name = "" + (char) ('a' + m);
            wide.append(m < 12 ? name + "=noi();" : name + "=add(" + (char) ('a' + m - 12) + ","
                    + (m == 12 ? "1" : "" + (char) ('a' + m - 1)) + ");");
        }
        Due.is("twelve at once", Due.playing(wide.toString(), false).slots(), 12);
        Due.is("twelve at once, optimised", Due.playing(wide.toString(), true).slots(), 12);
    }

    /** Which slots were in use in an earlier program does not count in a later one. */
    private static void slotsAreOfThisProgram() {
        PatchVoices x = Due.playing("a=noi();b=noi();c=noi();d=noi();o=env(a,b,c,d);", false);
        Due.is("slots()", x.slots(), 4);
        Due.compile(x, "a=noi();b=noi();c=noi();d=noi();e=noi();");
        Due.is("slots() of one at a time", x.slots(), 1);
        for (int i = 0; i < 5; i++) {
            Due.is("slot of " + i, x.step(i, 2), 0);
        }
        Due.compile(x, "d=del(a,1);a=noi();o=noi();");
        Due.is("slots() with a put", x.slots(), 2);
        Due.compile(x, "a=noi();b=saw(a);c=noi();");
        Due.is("slots() without", x.slots(), 1);
    }
}
