/** Promises 4 (compile) and 5 (named): the place of a text's fault, and the faults 1 to 5. */
public final class CompileTest {
    private static final int NONE = PatchVoices.NONE;
    private static final String[] WORDS = {
        "add", "sub", "mul", "mix", "lim", "cmp", "sel", "kno", "pit", "gat",
        "vel", "saw", "sqr", "tri", "bow", "noi", "env", "low", "del", "hld",
    };
    private static final int[] INPUTS = {
        2, 2, 2, 3, 3, 2, 3, 1, 0, 0, 0, 1, 1, 1, 1, 0, 4, 3, 2, 2
    };

    public static void main(String[] args) {
        textsThatArePatches();
        placesOfFaults();
        everyEndComesTooEarly();
        wordsAndTheirInputs();
        namesThatComeAgain();
        cordsFromNowhere();
        wrongInputs();
        tooMuch();
        loops();
        theFirstFaultInTurn();
        theLongestTexts();
        namedTellsOfTheLatest();
        aFaultChangesNothing();
        compileIsSilent();
        Due.end("CompileTest");
    }

    private static void fault(String text, int answer, int named) {
        PatchVoices x = new PatchVoices();
        Due.is("compile() of " + text, Due.compile(x, text), answer);
        Due.is("named() of " + text, x.named(), named);
        Due.is("the text stays: " + text, x.erase(), text.length());
    }

    private static void textsThatArePatches() {
        fault("a=pit();", 0, NONE);
        fault("abcd=add(zzzz,-000000001);zzzz=pit();", 0, NONE);
        fault("  a  =  add  (  1  ,  -2  )  ;  b  =  gat  (  )  ;  ", 0, NONE);
        fault("a=saw(-999999999);b=saw(999999999);", 0, NONE);
        fault("add=add(add,1);", 1, 0);
        fault("add=saw(del);del=del(add,1);", 0, NONE);
    }

    private static void place(String before, String rest) {
        fault(before + rest, -1 - before.length(), NONE);
    }

    private static void placesOfFaults() {
        place("", "=pit();");
        place("  ", "A=pit();");
        place("", "1a=pit();");
        place("", ";");
        place("a", "1=pit();");
        place("a ", "b=pit();");
        place("abcd", "e=pit();");
        place("abcd ", "e=pit();");
        place("a", "(pit);");
        place("a=", "=pit();");
        place("a=", "zit();");
        place("a=", "(");
        place("a=p", "at();");
        place("a=p", " it();");
        place("a=pi", "n();");
        place("a=pit", "s();");
        place("a=pit ", "s();");
        place("a=pit", ";");
        place("a=pit", "1();");
        place("a=pit(", ";");
        place("a=pit(", ",);");
        place("a=pit(", "A);");
        place("a=pit(", "();");
        place("a=pit()", "b");
        place("a=pit() ", ")");
        place("a=pit()", ",");
        place("a=pit();", ";");
        place("a=pit();", ")");
        place("a=pit(abcd", "e);");
        place("a=pit(ab", "1);");
        place("a=pit(ab ", "c);");
        place("a=pit(ab", "=);");
        place("a=pit(1", "a);");
        place("a=pit(1", "-1);");
        place("a=pit(1 ", "1);");
        place("a=pit(123456789", "0);");
        place("a=pit(-123456789", "0);");
        place("a=pit(000000000", "1);");
        place("a=pit(-", "a);");
        place("a=pit(-", "-1);");
        place("a=pit(-", " 1);");
        place("a=pit(-", ");");
        place("a=pit(-", ",1);");
        place("a=pit(1,", ");");
        place("a=pit(1,", ",2);");
        place("a=pit(1, ", ";");
        place("a=pit(1,2,3,4", ",5);");
        place("a=pit(1,2,3,b ", ",5);");
        place("a=pit();b=gat();c=", "+");
    }

    private static void everyEndComesTooEarly() {
        String whole = " ab = env ( a , -12 , b , 3 ) ;";
        for (int end = 0; end < whole.length(); end++) {
            fault(whole.substring(0, end), -1 - end, NONE);
        }
        String second = "c=gat();" + whole;
        for (int end = 10; end < second.length(); end++) {
            fault(second.substring(0, end), -1 - end, NONE);
        }
    }

    private static void wordsAndTheirInputs() {
        for (int kind = 0; kind < WORDS.length; kind++) {
            StringBuilder inputs = new StringBuilder();
            for (int n = 0; n <= 4; n++) {
                String text = "a=" + WORDS[kind] + "(" + inputs + ");";
                fault(text, n == INPUTS[kind] ? 0 : 4, n == INPUTS[kind] ? NONE : 0);
                inputs.append(n == 0 ? "1" : ",1");
            }
            String before = "a=" + WORDS[kind] + "(1,1,1,1";
            place(before, ",1);");
            PatchVoices x = new PatchVoices();
            Due.compile(x, "a=" + WORDS[kind] + call(INPUTS[kind]));
            Due.is("kind of " + WORDS[kind], x.step(0, 0), kind);
        }
    }

    private static String call(int inputs) {
        return inputs == 0 ? "();" : "(1" + ",1".repeat(inputs - 1) + ");";
    }

    private static void namesThatComeAgain() {
        fault("a=pit();a=pit();", 3, 1);
        fault("a=pit();b=pit();b=pit();a=pit();", 3, 2);
        fault("ab=pit();a=pit();b=pit();ba=pit();abc=pit();ab=gat();", 3, 5);
        fault("abcd=pit();abce=pit();bbcd=pit();abcd=gat();", 3, 3);
    }

    private static void cordsFromNowhere() {
        fault("a=add(a,b);", 2, 0);
        fault("a=pit();b=add(a,aa);", 2, 1);
        fault("a=env(1,2,3,q);", 2, 0);
        fault("a=add(b,c);b=pit();c=saw(d);", 2, 2);
        fault("a=pit(x);", 2, 0);
    }

    private static void wrongInputs() {
        fault("a=pit();b=del(a,0);", 4, 1);
        fault("a=del(1,1);", 0, NONE);
        fault("a=del(1,64);", 0, NONE);
        fault("a=del(1,65);", 4, 0);
        fault("a=del(1,-1);", 4, 0);
        fault("a=del(1,a);", 4, 0);
        fault("a=del(1,999999999);b=del(1,999999999);c=del(1,999999999);", 4, 0);
        fault("a=kno(-0);", 0, NONE);
        fault("a=kno(003);", 0, NONE);
        fault("a=kno(4);", 4, 0);
        fault("a=kno(-1);", 4, 0);
        fault("a=pit();b=kno(a);", 4, 1);
        fault("a=del(1,1,1);b=del(1);c=kno();", 4, 0);
        fault("a=del(1,1);b=del(1);c=kno();", 4, 1);
    }

    private static String manyPits(int n) {
        StringBuilder text = new StringBuilder();
        for (int m = 0; m < n; m++) {
            text.append(m < 26 ? "" : "a").append((char) ('a' + m % 26)).append("=pit();");
        }
        return text.toString();
    }

    private static void tooMuch() {
        fault(manyPits(24), 0, NONE);
        fault(manyPits(25), 5, 24);
        fault("a=del(1,64);b=del(1,64);", 0, NONE);
        fault("a=del(1,64);b=del(1,64);c=pit();d=del(1,1);e=del(1,1);", 5, 3);
        fault("a=del(1,43);b=del(1,43);c=del(1,42);", 0, NONE);
        fault("a=del(1,43);b=del(1,43);c=del(1,43);", 5, 2);
        fault("z=del(1,64);zz=del(1,64);zzz=del(1,1);" + manyPits(25), 5, 2);
        fault(manyPits(25) + "za=del(1,64);zb=del(1,64);zc=del(1,1);", 5, 24);
    }

    private static void loops() {
        fault("a=saw(a);", 1, 0);
        fault("a=del(a,1);", 0, NONE);
        fault("a=add(b,1);b=add(c,1);c=add(b,1);", 1, 1);
        fault("a=add(b,1);b=add(c,1);c=del(b,1);", 0, NONE);
        fault("a=pit();b=add(a,c);c=add(a,d);d=add(b,e);e=add(d,d);", 1, 1);
        fault("a=add(d,1);b=del(c,1);c=add(b,c);d=add(e,b);e=add(d,1);", 1, 2);
        fault("a=add(b,1);b=del(a,9);c=env(1,2,3,c);", 1, 2);
    }

    private static void theFirstFaultInTurn() {
        String again = "a=pit();";
        String loose = "b=saw(q);";
        String wrong = "c=pit(1);";
        String much = "d=del(1,64);e=del(1,64);f=del(1,64);";
        String loop = "a=saw(a);";
        fault(loop + much + wrong + loose + again, 3, 6);
        fault(loop + much + wrong + loose, 2, 5);
        fault(loop + much + wrong, 4, 4);
        fault(loop + much, 5, 3);
        fault(loop, 1, 0);
        place(loop + much + wrong + loose + again, "?");
    }

    private static void theLongestTexts() {
        String statements = "a=pit();".repeat(37);
        fault(statements, 3, 1);
        fault(statements + "    ", 3, 1);
        fault(statements + "abcd", -1 - 300, NONE);
        place(statements + "b= ", "?");
        fault(manyPits(36), 5, 24);
        String names = manyPits(35);
        fault(names + "zz=saw(zz);", 5, 24);
        fault(names + "zz=saw(zy);", 2, 35);
        fault(names + "zz=saw();", 4, 35);
    }

    private static void namedTellsOfTheLatest() {
        PatchVoices x = new PatchVoices();
        Due.is("compile()", Due.compile(x, "a=pit();b=pit(1);"), 4);
        Due.is("named()", x.named(), 1);
        x.erase();
        Due.is("named() behind erase()", x.named(), 1);
        Due.is("compile()", x.compile(), -1);
        Due.is("named() behind a place", x.named(), NONE);
        Due.is("compile()", Due.compile(x, "a=pit(1);"), 4);
        Due.is("named()", x.named(), 0);
        Due.is("compile()", Due.compile(x, "a=pit();"), 0);
        Due.is("named() behind no fault", x.named(), NONE);
    }

    private static void aFaultChangesNothing() {
        PatchVoices x = Due.playing("a=add(1,2);b=pit();c=add(a,b);", true);
        x.voices(2);
        x.note(10, 1);
        x.run(3);
        x.optimise(false);
        String[] faulty = {"", "a=pit();a=pit();", "a=saw(a);b=gat();", "a=pit(1);"};
        for (String text : faulty) {
            Due.compile(x, text);
            Due.is("steps() behind " + text, x.steps(), 2);
            Due.is("step(1, 7) behind " + text, x.step(1, 7), 3);
            Due.is("out(2) behind " + text, x.out(2), 13);
            Due.is("tap(0, 2) behind " + text, x.tap(0, 2), 13);
            Due.is("active(0) behind " + text, x.active(0), true);
        }
        Due.is("the voice goes on", Due.samples(x, 1)[0], 13);
        Due.is("the next voice", x.note(1, 1), 1);
    }

    private static void compileIsSilent() {
        PatchVoices x = Due.playing("a=pit();", false);
        x.voices(2);
        x.knob(1, 5);
        x.note(10, 1);
        x.run(3);
        Due.is("compile() again", x.compile(), 0);
        Due.is("active(0)", x.active(0), false);
        Due.thrown("out(0)", IndexOutOfBoundsException.class, () -> x.out(0));
        Due.thrown("tap(0, 0)", java.util.NoSuchElementException.class, () -> x.tap(0, 0));
        Due.all("samples without a voice", Due.samples(x, 2), 0, 0);
        Due.is("compile() of a knob", Due.compile(x, "a=kno(1);"), 0);
        Due.is("the voices stay", x.note(1, 1), 0);
        Due.is("the voices stay", x.note(1, 1), 1);
        Due.is("the knobs stay", Due.samples(x, 1)[0], 10);
    }
}
