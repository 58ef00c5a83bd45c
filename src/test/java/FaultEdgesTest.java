/** The edges of the faults 1 to 5; promises 4 and 5. */
public final class FaultEdgesTest {
    private static final int NONE = PatchVoices.NONE;
    private static final String[] WORDS =
            "add sub mul mix lim cmp sel kno pit gat vel saw sqr tri bow noi env low del hld"
                    .split(" ");
    private static final int[] INPUTS = {
        2, 2, 2, 3, 3, 2, 3, 1, 0, 0, 0, 1, 1, 1, 1, 0, 4, 3, 2, 2
    };
    private static final int KNO = 7;
    private static final int DEL = 18;

    public static void main(String[] args) {
        aNameOfOneBefore();
        aNameThatIsNoModules();
        asManyInputsAsItsKind();
        theSecondOfDel();
        theOneOfKno();
        theTwentyFifth();
        theNumbersOfDelUpToIt();
        loopsOfEveryLength();
        loopsThroughEveryInput();
        onTheLoopAndBesideIt();
        theFirstOfThoseThatThereAre();
        theLeastModule();
        namedIsOfTheLatestCompile();
        theTextStays();
        everyCompileIsAsTheFirst();
        Due.end("FaultEdgesTest");
    }

    private static void fault(String text, int answer, int named) {
        PatchVoices x = new PatchVoices();
        Due.is("type of " + text, Due.type(x, text), text.length());
        Due.is("compile() of " + text, x.compile(), answer);
        Due.is("named() of " + text, x.named(), named);
        Due.is("steps() of " + text, x.steps() > 0, answer == 0);
    }

    private static String name(int m) {
        return "" + (char) ('a' + m);
    }

    private static void aNameOfOneBefore() {
        Due.by("3 a module has the name of one before it");
        String[] apart = {"a", "b", "aa", "ab", "ba", "aaa", "aab", "aba", "baa", "aaaa", "aaab",
            "baaa", "abaa", "aaba"};
        StringBuilder all = new StringBuilder();
        for (String name : apart) {
            all.append(name).append("=pit();");
        }
        fault(all.toString(), 0, NONE);
        for (String name : apart) {
            fault(all + name + "=gat();", 3, apart.length);
            fault(name + "=gat();" + all, 3, indexOf(apart, name) + 1);
        }
        fault("a=pit();a=pit();a=pit();", 3, 1);
        fault("a=pit();b=pit();c=pit();c=gat();a=gat();", 3, 3);
        fault("a = pit();b=pit(); a =pit();", 3, 2);
    }

    private static int indexOf(String[] names, String name) {
        return java.util.Arrays.asList(names).indexOf(name);
    }

    private static void aNameThatIsNoModules() {
        Due.by("2 a cord's name is no module's");
        String names = "a=pit();ab=pit();abc=pit();";
        for (String cord : new String[] {"a", "ab", "abc"}) {
            fault(names + "q=saw(" + cord + ");", 0, NONE);
        }
        for (String cord : new String[] {"b", "aa", "abd", "bc", "abcd", "c", "bab", "saw"}) {
            fault(names + "q=saw(" + cord + ");", 2, 3);
        }
        for (int kind = 0; kind < WORDS.length; kind++) {
            for (int j = 0; j < 4; j++) {
                String inputs = "1,".repeat(j) + "zz" + ",1".repeat(3 - j);
                fault("a=" + WORDS[kind] + "(" + inputs + ");", 2, 0);
            }
        }
        // one's own name and a later one are names of modules
        fault("a=del(a,1);", 0, NONE);
        fault("a=saw(b);b=pit();", 0, NONE);
        fault("a=saw(b);b=pit();c=saw(d);", 2, 2);
        fault("a=saw(d);b=pit();c=saw(d);", 2, 0);
    }

    private static void asManyInputsAsItsKind() {
        Due.by("4 a module has not as many inputs as its kind");
        for (int kind = 0; kind < WORDS.length; kind++) {
            for (int n = 0; n <= 4; n++) {
                boolean right = n == INPUTS[kind];
                fault("a=" + WORDS[kind] + inputs(n, "1") + ";", right ? 0 : 4, right ? NONE : 0);
                if (kind != KNO && kind != DEL) {
                    fault("p=pit();a=" + WORDS[kind] + inputs(n, "p") + ";", right ? 0 : 4,
                            right ? NONE : 1);
                }
            }
        }
    }

    private static String inputs(int n, String each) {
        return n == 0 ? "()" : "(" + each + ("," + each).repeat(n - 1) + ")";
    }

    private static void theSecondOfDel() {
        Due.by("or the second one of del is no number from 1 to 64");
        for (String n : new String[] {"1", "64", "01", "000000064", "2", "63"}) {
            fault("a=del(0," + n + ");", 0, NONE);
            fault("a=del(a," + n + ");", 0, NONE);
        }
        for (String n : new String[] {"0", "65", "-1", "-64", "-0", "128", "320", "999999999",
            "-999999999", "a", "p"}) {
            fault("p=pit();a=del(0," + n + ");", 4, 1);
            fault("p=pit();a=del(p," + n + ");b=del(p,1);", 4, 1);
        }
        // the first one of del may be any number
        for (String n : new String[] {"0", "65", "-1", "999999999"}) {
            fault("a=del(" + n + ",1);", 0, NONE);
        }
        // the second one of hld, of the same form, is free
        fault("a=hld(0,65);b=hld(0,0);c=hld(0,a);", 0, NONE);
    }

    private static void theOneOfKno() {
        Due.by("or that of kno no number from 0 to 3");
        for (String n : new String[] {"0", "1", "2", "3", "-0", "000000003"}) {
            fault("a=kno(" + n + ");", 0, NONE);
        }
        for (String n : new String[] {"-1", "4", "-3", "5", "256", "999999999", "-999999999",
            "p", "a"}) {
            fault("p=pit();a=kno(" + n + ");", 4, 1);
        }
        fault("a=saw(4);b=saw(-1);", 0, NONE);
    }

    /** Modules a, b, .. of eight characters each. */
    private static String pits(int n) {
        StringBuilder text = new StringBuilder();
        for (int m = 0; m < n; m++) {
            text.append(name(m)).append("=pit();");
        }
        return text.toString();
    }

    private static void theTwentyFifth() {
        Due.by("5 a module is the 25th");
        fault(pits(24), 0, NONE);
        fault(pits(25), 5, 24);
        fault(pits(26), 5, 24);
        fault(pits(25) + "aa=del(1,64);bb=del(1,64);cc=del(1,1);", 5, 24);
        // 300 characters: 37 statements of eight, and the beginning of one more
        fault("a=pit();".repeat(37) + "abcd", -301, NONE);
        fault("a=pit();".repeat(37) + "    ", 3, 1);
        PatchVoices x = new PatchVoices();
        x.optimise(true);
        Due.is("modules that are not needed count", Due.compile(x, pits(25)), 5);
        Due.is("named()", x.named(), 24);
        Due.is("24", Due.compile(x, pits(24)), 0);
        Due.is("steps()", x.steps(), 1);
    }

    /** The dels a, b, .. of a number. */
    private static String dels(int... numbers) {
        StringBuilder text = new StringBuilder();
        for (int m = 0; m < numbers.length; m++) {
            text.append(name(m)).append("=del(1,").append(numbers[m]).append(");");
        }
        return text.toString();
    }

    private static void theNumbersOfDelUpToIt() {
        Due.by("or the numbers of del up to it are more than 128 together");
        fault(dels(64, 64), 0, NONE);
        fault(dels(64, 63, 1), 0, NONE);
        fault(dels(64, 64, 1), 5, 2);
        fault(dels(1, 64, 64), 5, 2);
        fault(dels(1, 63, 64), 0, NONE);
        fault(dels(43, 43, 42), 0, NONE);
        fault(dels(43, 43, 43), 5, 2);
        fault(dels(64, 64, 64, 64), 5, 2);
        fault(dels(32, 32, 32, 32), 0, NONE);
        fault(dels(32, 32, 32, 32, 1, 1), 5, 4);
        fault(dels(32, 32, 32, 33), 5, 3);
        int[] many = new int[24];
        for (int m = 0; m < 24; m++) {
            many[m] = m < 16 ? 5 : 6;
        }
        fault(dels(many), 0, NONE);
        many[0] = 6;
        fault(dels(many), 5, 23);
        // numbers of other kinds do not count, nor what goes into a del
        fault("a=del(999,64);b=hld(64,64);c=add(128,128);d=del(64,64);", 0, NONE);
        fault("a=del(1,64);b=hld(64,64);d=del(64,64);c=add(1,1);e=del(1,1);", 5, 4);
        fault(dels(64, 64, 1) + "p=pit();q=pit();", 5, 2);
        PatchVoices x = new PatchVoices();
        x.optimise(true);
        Due.is("dels that are not needed count", Due.compile(x, dels(64, 64, 1) + "p=pit();"), 5);
    }

    /** A ring of n modules, each of which reads the next; the one at del, if any, is a del. */
    private static String ring(int n, int del) {
        StringBuilder text = new StringBuilder();
        for (int m = 0; m < n; m++) {
            String next = name((m + 1) % n);
            text.append(name(m)).append(m == del ? "=del(" + next + ",1);" : "=saw(" + next + ");");
        }
        return text.toString();
    }

    private static void loopsOfEveryLength() {
        Due.by("1 a module lies on a LOOP of cords none of which goes into a del");
        for (int n = 1; n <= 24; n++) {
            fault(ring(n, NONE), 1, 0);
            fault("z=pit();y=saw(a);".substring(0, n <= 22 ? 17 : 0) + ring(n, NONE), 1,
                    n <= 22 ? 2 : 0);
            for (int del = 0; del < n; del++) {
                fault(ring(n, del), 0, NONE);
            }
        }
    }

    private static void loopsThroughEveryInput() {
        for (int kind = 0; kind < WORDS.length; kind++) {
            for (int j = 0; j < INPUTS[kind]; j++) {
                String before = "=" + WORDS[kind] + "(" + "1,".repeat(j);
                String after = ",1".repeat(INPUTS[kind] - 1 - j) + ");";
                int answer = kind == KNO || kind == DEL && j == 1 ? 4 : kind == DEL ? 0 : 1;
                fault("a" + before + "a" + after, answer, answer == 0 ? NONE : 0);
                fault("p=pit();a" + before + "b" + after + "b=saw(a);", answer,
                        answer == 0 ? NONE : 1);
            }
        }
    }

    private static void onTheLoopAndBesideIt() {
        // a reads the loop, b is read by it: neither lies on it
        fault("a=saw(c);b=pit();c=add(b,d);d=saw(c);", 1, 2);
        fault("a=saw(d);b=saw(a);c=saw(b);d=add(e,1);e=saw(d);", 1, 3);
        // two loops
        fault("p=pit();d=saw(e);e=saw(d);b=saw(c);c=saw(b);", 1, 1);
        // a loop with a del, and a shorter way past the del
        fault("p=pit();a=add(d,b);b=saw(a);d=del(b,1);", 1, 1);
        fault("a=add(d,b);b=saw(p);d=del(a,1);p=pit();", 0, NONE);
        // the cord from a del counts like any other: only the one into it does not
        fault("a=saw(d);d=del(a,1);b=saw(d);c=add(b,d);", 0, NONE);
        fault("d=del(a,1);a=add(d,a);", 1, 1);
        fault("d=del(d,1);e=del(d,1);a=add(e,d);", 0, NONE);
        // the same module twice
        fault("a=pit();b=add(a,a);c=add(b,b);", 0, NONE);
        fault("a=pit();b=add(c,c);c=add(b,b);", 1, 1);
    }

    private static void theFirstOfThoseThatThereAre() {
        Due.by("or else the first of 3, 2, 4, 5, 1 that there is");
        String[] text = {
            "aa=pit();aa=pit();", "b=saw(qq);", "c=pit(1);",
            "d=del(1,64);e=del(1,64);f=del(1,64);", "g=saw(g);",
        };
        int[] fault = {3, 2, 4, 5, 1};
        int[] modules = {2, 1, 1, 3, 1};
        int[] which = {1, 0, 0, 2, 0};
        for (int one = 0; one < 5; one++) {
            fault(text[one], fault[one], which[one]);
            for (int other = one + 1; other < 5; other++) {
                fault(text[one] + text[other], fault[one], which[one]);
                fault(text[other] + text[one], fault[one], modules[other] + which[one]);
            }
        }
        Due.by("-1 less the place of the fault, or else");
        for (int one = 0; one < 5; one++) {
            fault(text[one] + "?", -1 - text[one].length(), NONE);
            fault(text[one] + "x", -2 - text[one].length(), NONE);
        }
        Due.by("or else the first of 3, 2, 4, 5, 1 that there is");
        // one module with several faults
        fault("a=saw(a,q);", 2, 0);
        fault("a=saw(a,1);", 4, 0);
        fault("a=del(a,q);", 2, 0);
        fault("a=kno(q);", 2, 0);
        fault("a=pit();a=kno(q);", 3, 1);
        fault(pits(24) + "a=pit();", 3, 24);
        fault(pits(24) + "y=saw(y);", 5, 24);
        fault(pits(24) + "y=saw();", 4, 24);
        fault(pits(24) + "y=saw(z);", 2, 24);
        fault("z=saw(z);" + pits(24), 5, 24);
    }

    private static void theLeastModule() {
        Due.by("The least module that has the fault 1 to 5 that the latest compile() answered");
        fault("a=pit(1);b=pit();b=pit();b=pit();", 3, 2);
        fault("a=pit(1);b=saw(q);c=saw(q);", 2, 1);
        fault("a=saw(a);b=pit(1);c=pit(1);", 4, 1);
        fault("a=saw(a);b=del(1,64);c=del(1,64);d=del(1,1);e=del(1,1);", 5, 3);
        fault("a=pit();b=saw(c);c=saw(b);d=saw(d);", 1, 1);
        fault("a=pit();d=saw(c);c=saw(d);b=saw(b);", 1, 1);
    }

    private static void namedIsOfTheLatestCompile() {
        Due.by("NONE when it answered none such, or there was none");
        String[] faulty = {"a=pit();a=pit();", "p=pit();a=saw(q);", "p=pit();a=pit(1);",
            "a=del(1,65);", "a=saw(a);"};
        int[] named = {1, 1, 1, 0, 0};
        for (int i = 0; i < faulty.length; i++) {
            PatchVoices x = new PatchVoices();
            Due.is("named() before", x.named(), NONE);
            Due.type(x, faulty[i]);
            Due.is("named() behind type()", x.named(), NONE);
            x.compile();
            Due.is("named()", x.named(), named[i]);
            Due.is("named() again", x.named(), named[i]);
            x.erase();
            x.optimise(true);
            x.voices(2);
            x.note(1, 1);
            x.reset();
            Due.is("named() behind other calls", x.named(), named[i]);
            Due.is("compile() of no text", x.compile(), -1);
            Due.is("named() behind a place", x.named(), NONE);
            Due.compile(x, faulty[i]);
            Due.is("named()", x.named(), named[i]);
            Due.is("compile()", Due.compile(x, "a=pit();"), 0);
            Due.is("named() behind 0", x.named(), NONE);
        }
    }

    private static void theTextStays() {
        Due.by("Makes the program of the text, which stays");
        String[] texts = {"a=pit();", "a=pit();?", "a=pit();b", "a=pit();a=pit();", "a=saw(q);",
            "a=saw();", "a=del(1,64);b=del(1,64);c=del(1,1);", "a=saw(a);"};
        for (String text : texts) {
            PatchVoices x = new PatchVoices();
            Due.type(x, text);
            int answer = x.compile();
            int named = x.named();
            Due.is("compile() again of " + text, x.compile(), answer);
            Due.is("named() again of " + text, x.named(), named);
            Due.is("erase() of " + text, x.erase(), text.length());
        }
        PatchVoices x = new PatchVoices();
        Due.type(x, "a=pit();");
        x.compile();
        Due.type(x, "b=gat();");
        Due.is("compile() of the longer text", x.compile(), 0);
        Due.is("steps()", x.steps(), 2);
    }

    /** What an earlier compile() found or made is not seen in a later one. */
    private static void everyCompileIsAsTheFirst() {
        Due.by("Answers 0; or, all staying as it was (but for named())");
        String[] texts = {ring(24, NONE), pits(24), "a=env(1,2,3,4);b=env(a,a,a,a);", pits(25),
            "a=del(1,64);b=del(a,64);", "a=saw(b);b=pit();", "a=saw(q);b=saw(q,q,q,q);",
            "a=pit();b=saw(a);", "a=saw(1,2,3,4);", ring(24, 5), "a=saw(b);b=saw(a);", "q=kno(3);"};
        for (int first = 0; first < texts.length; first++) {
            PatchVoices x = new PatchVoices();
            Due.compile(x, texts[first]);
            for (String text : new String[] {texts[(first + 1) % texts.length],
                texts[(first + 5) % texts.length], texts[(first + 7) % texts.length]}) {
                PatchVoices fresh = new PatchVoices();
                int want = Due.compile(fresh, text);
                Due.is("compile() of " + text, Due.compile(x, text), want);
                Due.is("named() of " + text, x.named(), fresh.named());
            }
        }
    }
}
