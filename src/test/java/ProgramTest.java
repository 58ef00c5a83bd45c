/** Promises 6 (optimise), 7 (steps), 8 (step) and 9 (slots): the program, its order and slots. */
public final class ProgramTest {
    private static final int NONE = PatchVoices.NONE;
    private static final int PUT = 20;

    public static void main(String[] args) {
        optimiseCountsFromTheNextCompile();
        theOrderTakesTheLeast();
        delsNeedNothing();
        stepTellsAllOfAStep();
        stepOfDelsAndPuts();
        stepRefuses();
        numbersStand();
        alikeModulesStand();
        memoriesAreNeverAlike();
        eitherWayOfAddAndMulAlone();
        theEarliestInTheOrderStands();
        whatTheOutputNeedsIsKept();
        aNumberForTheOutput();
        standsReachPuts();
        slotsAreUsedAgain();
        theOutputKeepsItsSlot();
        putsAreLaterSteps();
        asManySlotsAsModules();
        twentyFourModules();
        programsLeaveNothingBehind();
        Due.end("ProgramTest");
    }

    /** What = 0, 1 and 2 of all steps: kind, module, slot. */
    private static void steps(String what, PatchVoices x, int[]... want) {
        Due.is(what + ": steps()", x.steps(), want.length);
        for (int i = 0; i < Math.min(want.length, x.steps()); i++) {
            for (int k = 0; k < want[i].length; k++) {
                Due.is(what + ": step(" + i + ", " + k + ")", x.step(i, k), want[i][k]);
            }
        }
    }

    private static int[] row(int... whole) {
        return whole;
    }

    private static void optimiseCountsFromTheNextCompile() {
        PatchVoices x = Due.playing("a=pit();b=add(1,1);", false);
        x.optimise(true);
        Due.is("steps() before the next compile()", x.steps(), 2);
        x.note(1, 1);
        x.run(1);
        x.optimise(true);
        Due.is("optimise() silences nothing", x.out(0), 2);
        x.compile();
        Due.is("steps() optimised", x.steps(), 0);
        x.optimise(false);
        Due.is("steps() stay", x.steps(), 0);
        x.compile();
        Due.is("steps() not optimised", x.steps(), 2);
        Due.is("slots() not optimised", x.slots(), 1);
    }

    private static void theOrderTakesTheLeast() {
        PatchVoices x = Due.playing("a=add(c,d);b=add(d,1);c=pit();d=gat();e=add(a,b);", false);
        // 0 waits for 2 and 3, and 1 for 3; once 3 is in, the least one comes first
        steps("order", x, row(8, 2), row(9, 3), row(0, 0), row(0, 1), row(0, 4));
        x = Due.playing("a=saw(b);b=saw(c);c=saw(d);d=pit();", false);
        steps("chain", x, row(8, 3), row(11, 2), row(11, 1), row(11, 0));
    }

    private static void delsNeedNothing() {
        PatchVoices x = Due.playing("a=del(c,2);b=pit();c=add(a,d);d=del(c,3);", false);
        steps("dels", x, row(18, 0), row(8, 1), row(18, 3), row(0, 2), row(PUT, 0), row(PUT, 3));
        x = Due.playing("x=add(d,1);e=del(x,1);d=del(e,2);", false);
        steps("puts by the order", x, row(18, 1), row(18, 2), row(0, 0), row(PUT, 1), row(PUT, 2));
    }

    private static void stepTellsAllOfAStep() {
        PatchVoices x = Due.playing("a=pit();b=gat();c=env(b,-7,a,123456789);d=kno(3);", false);
        int[][] want = {
            {8, 0, 0, NONE, NONE, NONE, NONE, 0, 0, 0, 0},
            {9, 1, 1, NONE, NONE, NONE, NONE, 0, 0, 0, 0},
            {16, 2, 0, 1, NONE, 0, NONE, 0, -7, 0, 123456789},
            {7, 3, 0, NONE, NONE, NONE, NONE, 3, 0, 0, 0},
        };
        steps("whole steps", x, want);
    }

    private static void stepOfDelsAndPuts() {
        PatchVoices x = Due.playing("a=del(-5,7);b=pit();c=del(b,64);", false);
        int[][] want = {
            {18, 0, 0, NONE, NONE, NONE, NONE, 0, 7, 0, 0},
            {8, 1, 0, NONE, NONE, NONE, NONE, 0, 0, 0, 0},
            {18, 2, 1, NONE, NONE, NONE, NONE, 0, 64, 0, 0},
            {PUT, 0, NONE, NONE, NONE, NONE, NONE, -5, 0, 0, 0},
            {PUT, 2, NONE, 0, NONE, NONE, NONE, 0, 0, 0, 0},
        };
        steps("dels and puts", x, want);
        Due.is("slots()", x.slots(), 2);
    }

    private static void stepRefuses() {
        PatchVoices x = Due.playing("a=pit();b=del(a,1);", false);
        for (int i : new int[] {-1, 3, 4, Integer.MAX_VALUE, Integer.MIN_VALUE}) {
            Due.thrown("step(" + i + ", 0)", IndexOutOfBoundsException.class, () -> x.step(i, 0));
            Due.thrown("step(" + i + ", 11)", IndexOutOfBoundsException.class, () -> x.step(i, 11));
        }
        for (int what : new int[] {-1, 11, Integer.MAX_VALUE, Integer.MIN_VALUE}) {
            Due.thrown("step(2, " + what + ")", IllegalArgumentException.class,
                    () -> x.step(2, what));
        }
        Due.is("step(2, 10)", x.step(2, 10), 0);
    }

    private static void numbersStand() {
        // 2147483647 is no number of a text, but it may stand for a module
        PatchVoices x = Due.playing(
                "a=mul(999999999,999999999);b=sub(0,a);c=sub(b,999);d=saw(a);e=mix(d,b,c);", true);
        int[][] want = {
            {11, 3, 0, NONE, NONE, NONE, NONE, 2147483647, 0, 0, 0},
            {3, 4, 0, 0, NONE, NONE, NONE, 0, -2147483647, -2147483648, 0},
        };
        steps("numbers", x, want);
        x = Due.playing("a=add(1,2);b=saw(5);c=kno(1);d=add(b,a);e=add(c,d);", true);
        steps("only kinds below 7", x, row(11, 1), row(7, 2), row(0, 3), row(0, 4));
        x = Due.playing("a=mix(1,3,65536);b=lim(9,1,a);c=cmp(b,2);d=sel(c,b,7);e=saw(d);", true);
        steps("all plain kinds", x, row(11, 4));
        Due.is("their number", x.step(0, 7), 3);
    }

    private static void alikeModulesStand() {
        PatchVoices x = Due.playing(
                "a=pit();b=pit();c=sub(a,1);d=sub(b,1);e=sub(1,a);f=lim(c,d,e);", true);
        int[][] want = {
            {8, 0, 0},
            {1, 2, 1, 0, NONE, NONE, NONE, 0, 1, 0, 0},
            {1, 4, 0, NONE, 0, NONE, NONE, 1, 0, 0, 0},
            {4, 5, 0, 1, 1, 0, NONE, 0, 0, 0, 0},
        };
        steps("alike", x, want);
        x = Due.playing("a=kno(1);b=kno(2);c=kno(1);d=mix(a,b,c);", true);
        steps("knobs", x, row(7, 0, 0), row(7, 1, 1), row(3, 3, 0, 0, 1, 0));
        x = Due.playing("a=gat();b=vel();c=gat();d=vel();e=mix(a,b,0);f=mix(c,d,0);g=sel(e,f,1);",
                true);
        steps("chains", x, row(9, 0, 0), row(10, 1, 1), row(3, 4, 0), row(6, 6, 0, 0, 0));
    }

    private static void memoriesAreNeverAlike() {
        PatchVoices x = Due.playing(
                "a=saw(5);b=saw(5);c=noi();d=noi();e=hld(1,1);f=hld(1,1);g=env(a,b,c,d);"
                + "h=low(e,f,g);", true);
        Due.is("steps() with memories", x.steps(), 8);
        x = Due.playing("a=saw(5);b=del(a,2);c=del(a,2);d=add(b,c);", true);
        Due.is("steps() with dels", x.steps(), 6);
    }

    private static void eitherWayOfAddAndMulAlone() {
        String two = "p=pit();q=gat();a=%s(p,q);b=%s(q,p);c=sel(p,a,b);";
        for (String word : new String[] {"add", "mul"}) {
            PatchVoices x = Due.playing(two.replace("%s", word), true);
            steps(word, x, row(8, 0), row(9, 1), row(word.equals("add") ? 0 : 2, 2), row(6, 4));
        }
        for (String word : new String[] {"sub", "cmp"}) {
            Due.is("steps() of " + word, Due.playing(two.replace("%s", word), true).steps(), 5);
        }
        PatchVoices x = Due.playing("p=pit();a=mul(p,5);b=mul(5,p);c=mul(p,6);d=mix(a,b,c);", true);
        steps("with numbers", x, row(8, 0), row(2, 1), row(2, 3), row(3, 4));
        // p p and p q share one input each way, and yet are not the same
        x = Due.playing("p=pit();q=gat();a=add(p,p);b=add(p,q);c=add(q,q);d=mix(a,b,c);", true);
        Due.is("steps() of sums that differ", x.steps(), 6);
        x = Due.playing("p=pit();a=add(p,0);b=mul(p,0);c=sub(p,0);d=mix(a,b,c);", true);
        Due.is("steps() of kinds that differ", x.steps(), 5);
    }

    private static void theEarliestInTheOrderStands() {
        // 0 waits for 3, so 2 is earlier in the order than 0 although it is greater
        PatchVoices x = Due.playing("a=add(d,p);p=pit();b=add(p,p);d=pit();o=sub(a,b);", true);
        steps("earliest", x, row(8, 1), row(0, 2), row(1, 4));
        Due.is("both inputs are one", x.step(2, 3), x.step(2, 4));
        x = Due.playing("a=saw(p);b=pit();p=pit();c=saw(b);o=sub(a,c);", true);
        steps("pit that is earlier", x, row(8, 1), row(11, 0), row(11, 3), row(1, 4));
    }

    private static void whatTheOutputNeedsIsKept() {
        PatchVoices x = Due.playing("a=noi();b=pit();c=gat();d=saw(b);e=saw(c);f=saw(d);", true);
        steps("needed", x, row(8, 1), row(11, 3), row(11, 5));
        // the chain of needs goes through dels against the order
        x = Due.playing("a=noi();b=del(a,1);c=del(b,1);d=del(c,1);z=noi();e=del(d,1);", true);
        Due.is("steps() through dels", x.steps(), 9);
        x = Due.playing("e=del(f,1);f=del(g,1);g=del(h,1);h=noi();o=saw(e);", true);
        Due.is("steps() against the order", x.steps(), 8);
        x = Due.playing("d=del(x,9);x=add(d,1);y=del(y,2);z=pit();o=sub(z,x);", true);
        steps("loops", x, row(18, 0), row(0, 1), row(8, 3), row(1, 4), row(PUT, 0));
        x = Due.playing("a=pit();b=saw(a);c=pit();", true);
        steps("what stands for the output", x, row(8, 0));
    }

    private static void aNumberForTheOutput() {
        PatchVoices x = Due.playing("a=noi();b=del(a,5);c=sub(1,2);", true);
        Due.is("steps()", x.steps(), 0);
        Due.is("slots()", x.slots(), 0);
        Due.thrown("step(0, 0)", IndexOutOfBoundsException.class, () -> x.step(0, 0));
        x.note(1, 1);
        x.note(1, 1);
        Due.all("samples", Due.samples(x, 2), -1, -1);
    }

    private static void standsReachPuts() {
        PatchVoices x = Due.playing(
                "d=del(b,2);a=pit();b=pit();e=del(c,3);c=add(4,5);o=mix(d,e,a);", true);
        int[][] want = {
            {18, 0, 0}, {8, 1, 1}, {18, 3, 2}, {3, 5, 0, 0, 2, 1},
            {PUT, 0, NONE, 1, NONE, NONE, NONE, 0, 0, 0, 0},
            {PUT, 3, NONE, NONE, NONE, NONE, NONE, 9, 0, 0, 0},
        };
        steps("puts", x, want);
        x.note(6, 1);
        // 6 + (-6 * 6 >> 16), which is rounded down; then 6 + (3 * 6 >> 16)
        Due.all("samples", Due.samples(x, 4), 0, 0, 5, 6);
    }

    private static void slotsAreUsedAgain() {
        PatchVoices x = Due.playing("a=pit();b=gat();c=vel();d=add(a,b);e=add(c,d);f=add(e,e);",
                false);
        steps("slots", x, row(8, 0, 0), row(9, 1, 1), row(10, 2, 2), row(0, 3, 0), row(0, 4, 0),
                row(0, 5, 0));
        Due.is("slots()", x.slots(), 3);
        // nobody reads the first three, so that they share a slot
        x = Due.playing("a=pit();b=gat();c=vel();d=noi();", false);
        steps("unread", x, row(8, 0, 0), row(9, 1, 0), row(10, 2, 0), row(15, 3, 0));
        Due.is("slots() of one", x.slots(), 1);
        // b frees slot 1 while a stays in 0
        x = Due.playing("a=pit();b=gat();c=saw(b);d=saw(c);e=add(a,d);", false);
        steps("gaps", x, row(8, 0, 0), row(9, 1, 1), row(11, 2, 1), row(11, 3, 1), row(0, 4, 0));
    }

    private static void theOutputKeepsItsSlot() {
        PatchVoices x = Due.playing("a=saw(o);b=saw(a);c=saw(b);o=pit();", false);
        steps("output first", x, row(8, 3, 0), row(11, 0, 1), row(11, 1, 1), row(11, 2, 1));
        Due.is("slots()", x.slots(), 2);
        x = Due.playing("p=pit();a=del(b,1);b=saw(a);q=pit();", true);
        steps("what stands for it", x, row(8, 0, 0));
    }

    /** A ring of 24 dels: each put reads a result, so that no slot is free before the end. */
    private static void asManySlotsAsModules() {
        StringBuilder text = new StringBuilder();
        for (int m = 0; m < 24; m++) {
            char next = (char) ('a' + (m + 1) % 24);
            text.append((char) ('a' + m)).append("=del(").append(next).append(",1);");
        }
        for (boolean optimised : new boolean[] {false, true}) {
            PatchVoices x = Due.playing(text.toString(), optimised);
            Due.is("steps() of the ring", x.steps(), 48);
            Due.is("slots() of the ring", x.slots(), 24);
            for (int m = 0; m < 24; m++) {
                Due.is("slot of " + m, x.step(m, 2), m);
                Due.is("slot that the put reads", x.step(24 + m, 3), (m + 1) % 24);
            }
            Due.thrown("step(48, 0)", IndexOutOfBoundsException.class, () -> x.step(48, 0));
            x.note(1, 1);
            Due.all("samples", Due.samples(x, 3), 0, 0, 0);
        }
    }

    private static void twentyFourModules() {
        StringBuilder chain = new StringBuilder();
        StringBuilder same = new StringBuilder();
        for (int m = 0; m < 24; m++) {
            char name = (char) ('a' + m);
            // each one reads the one behind it, so that the order goes from the last to the first
            String backwards = m == 23 ? "=pit();" : "=sub(" + (char) (name + 1) + ",1);";
            chain.append(name).append(backwards);
            same.append(name).append(m == 23 ? "=add(v,w);" : "=vel();");
        }
        PatchVoices x = Due.playing(chain.toString(), true);
        steps("only the last is needed", x, row(8, 23, 0));
        x = Due.playing(chain.toString(), false);
        Due.is("steps() of the chain", x.steps(), 24);
        for (int i = 0; i < 24; i++) {
            Due.is("order of the chain", x.step(i, 1), 23 - i);
        }
        // the output's result stays in slot 0
        Due.is("slots() of the chain", x.slots(), 2);
        x.note(100, 1);
        x.run(1);
        Due.is("the end of the chain", x.tap(0, 0), 77);
        x = Due.playing(same.toString(), true);
        steps("all but the last are one", x, row(10, 0, 0), row(0, 23, 0, 0, 0));
    }

    private static void programsLeaveNothingBehind() {
        String[] texts = {
            "a=gat();b=vel();c=pit();d=mix(a,b,c);e=lim(d,-7,9);f=env(e,d,c,-9);g=low(a,b,f);",
            "a=pit();b=saw(a);",
            "b=noi();a=add(3,b);c=del(a,2);",
            "a=add(7,8);",
        };
        for (boolean optimised : new boolean[] {false, true}) {
            PatchVoices x = Due.playing(texts[0], !optimised);
            x.optimise(optimised);
            for (String text : texts) {
                Due.is("compile()", Due.compile(x, text), 0);
                PatchVoices fresh = Due.playing(text, optimised);
                Due.is("steps()", x.steps(), fresh.steps());
                Due.is("slots()", x.slots(), fresh.slots());
                for (int i = 0; i < fresh.steps(); i++) {
                    for (int what = 0; what <= 10; what++) {
                        Due.is("step() of " + text, x.step(i, what), fresh.step(i, what));
                    }
                }
            }
        }
    }

    private static void putsAreLaterSteps() {
        PatchVoices x = Due.playing("a=pit();d=del(a,1);b=gat();c=vel();o=saw(d);", false);
        // the put reads a behind all other steps; d is free once o has read it
        steps("puts read", x, row(8, 0, 0), row(18, 1, 1), row(9, 2, 2), row(10, 3, 2),
                row(11, 4, 1), row(PUT, 1, NONE, 0));
        Due.is("slots()", x.slots(), 3);
        x = Due.playing("d=del(d,1);a=pit();", false);
        steps("a del that reads itself", x, row(18, 0, 0), row(8, 1, 1), row(PUT, 0, NONE, 0));
    }
}
