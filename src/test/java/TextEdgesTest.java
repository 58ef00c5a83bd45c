import java.util.Arrays;
import java.util.List;

/** The edges of the text, of patches and of the place of a fault; promises 1, 2 and 3. */
public final class TextEdgesTest {
    private static final int NONE = PatchVoices.NONE;
    private static final String LETTERS = "abcdefghijklmnopqrstuvwxyz";
    private static final String DIGITS = "0123456789";
    private static final List<String> WORDS = Arrays.asList(
            "add sub mul mix lim cmp sel kno pit gat vel saw sqr tri bow noi env low del hld"
                    .split(" "));

    public static void main(String[] args) {
        aNewObject();
        typeTakesOneToEight();
        typeTakesTheHighestOfTheLowestFirst();
        typeTakesCodes();
        typeTakesThreeHundred();
        eraseAnswersHowMany();
        oneStatementOrMore();
        noneOrOneToFourInputs();
        blanksAnywhereBut();
        everyCharacterBehindEveryBeginning();
        everyWordOfThreeLetters();
        oneToFourLetters();
        oneToNineDigits();
        thePlaceIsFromZero();
        theLengthWhenItEndsTooEarly();
        Due.end("TextEdgesTest");
    }

    private static PatchVoices typed(String text) {
        PatchVoices x = new PatchVoices();
        Due.type(x, text);
        return x;
    }

    private static void compiles(String text, int want) {
        Due.is("compile() of \"" + text + "\"", typed(text).compile(), want);
    }

    /** The text before is a beginning of a patch; with the first character of rest no more. */
    private static void faultAt(String before, String rest) {
        compiles(before + rest, -1 - before.length());
    }

    private static void aNewObject() {
        Due.by("No text");
        Due.is("erase()", new PatchVoices().erase(), 0);
        Due.is("compile()", new PatchVoices().compile(), -1);
        Due.is("type of one", new PatchVoices().type('a', 1), 1);
        Due.by("no program");
        PatchVoices x = new PatchVoices();
        Due.is("steps()", x.steps(), 0);
        Due.is("slots()", x.slots(), 0);
        Due.thrown("step(0, 0)", IndexOutOfBoundsException.class, () -> x.step(0, 0));
        Due.thrown("run(0)", IllegalStateException.class, () -> x.run(0));
        Due.thrown("tap(0, 0)", IndexOutOfBoundsException.class, () -> x.tap(0, 0));
        Due.by("not optimising");
        Due.type(x, "a=pit();b=add(1,1);");
        x.compile();
        Due.is("steps() of the first program", x.steps(), 2);
        Due.by("silent, one voice");
        PatchVoices y = new PatchVoices();
        Due.is("active(0)", y.active(0), false);
        Due.thrown("active(1)", IndexOutOfBoundsException.class, () -> y.active(1));
        Due.thrown("out(0)", IndexOutOfBoundsException.class, () -> y.out(0));
        Due.thrown("off(0)", IllegalStateException.class, () -> y.off(0));
        Due.is("first note", y.note(1, 1), 0);
        Due.is("second note", y.note(1, 1), 0);
        Due.by("knobs are 0");
        PatchVoices z = Due.playing("a=kno(0);b=kno(1);c=kno(2);d=kno(3);", false);
        z.note(1, 1);
        z.run(1);
        for (int k = 0; k < 4; k++) {
            Due.is("knob " + k, z.tap(0, k), 0);
        }
        Due.by("NONE when it answered none such, or there was none");
        Due.is("named() of a new object", new PatchVoices().named(), NONE);
    }

    private static void typeTakesOneToEight() {
        Due.by("NONE, changing nothing, when n is not 1 .. 8");
        long eight = Due.packed("=pit();b");
        int[] refused = {0, -1, 9, -8, 10, 16, 64, 72, 256, 264, Integer.MIN_VALUE,
            Integer.MAX_VALUE};
        for (int n : refused) {
            PatchVoices x = typed("a=pit()");
            Due.is("type of n = " + n, x.type(eight, n), NONE);
            Due.is("the next character", x.type(';', 1), 8);
            Due.is("compile()", x.compile(), 0);
        }
        for (int n = 1; n <= 8; n++) {
            Due.is("type of n = " + n, new PatchVoices().type(eight, n), n);
        }
    }

    private static void typeTakesTheHighestOfTheLowestFirst() {
        Due.by("Puts the n lowest bytes of characters, the highest of these first");
        String text = "ab=pit();";
        for (int n = 1; n <= 8; n++) {
            PatchVoices x = typed(text.substring(0, 9 - n));
            long above = n == 8 ? 0 : -1L << 8 * n;
            long lowest = Due.packed(text.substring(9 - n));
            Due.is("type of the last " + n, x.type(above | lowest, n), 9);
            Due.is("compile()", x.compile(), 0);
        }
        // the bytes above the n lowest may have any codes, and are not typed
        PatchVoices y = new PatchVoices();
        Due.is("type of one below seven others", y.type(0x001F7F80FF417A00L | 'a', 1), 1);
        Due.is("the others were not typed", y.type(Due.packed("=pit();"), 7), 8);
        Due.is("compile()", y.compile(), 0);
    }

    private static void typeTakesCodes() {
        Due.by("NONE, changing nothing, when .. one of them is not 32 .. 126");
        for (int code = 0; code < 256; code++) {
            boolean taken = code >= 32 && code <= 126;
            Due.is("type of code " + code, new PatchVoices().type(code, 1), taken ? 1 : NONE);
        }
        for (int n = 1; n <= 8; n++) {
            for (int i = 0; i < n; i++) {
                codeAt(n, i);
            }
        }
    }

    private static void codeAt(int n, int i) {
        long letters = Due.packed("aaaaaaaa") & ~(0xFFL << 8 * i);
        PatchVoices x = typed("a=pit()");
        for (int code : new int[] {0, 31, 127, 128, 160, 255}) {
            Due.is("type of " + n + ", code " + code + " at " + i,
                    x.type(letters | (long) code << 8 * i, n), NONE);
        }
        Due.is("the text is as before", x.type(';', 1), 8);
        Due.is("compile()", x.compile(), 0);
        Due.is("code 32", x.type(letters | 32L << 8 * i, n), 8 + n);
        Due.is("code 126", x.type(letters | 126L << 8 * i, n), 8 + 2 * n);
    }

    private static void typeTakesThreeHundred() {
        Due.by("NONE, changing nothing, when .. there would be more than 300");
        String patch = "a=pit();";
        for (int n = 1; n <= 8; n++) {
            PatchVoices x = typed(patch + " ".repeat(292 - n));
            Due.is("the last " + n, x.type(Due.packed("        "), n), 300);
            Due.is("one more", x.type(' ', 1), NONE);
            Due.is("compile() of 300", x.compile(), 0);
            PatchVoices y = typed(patch + " ".repeat(293 - n));
            Due.is(n + " where one less would go", y.type(Due.packed("bbbbbbbb"), n), NONE);
            Due.is("compile() without them", y.compile(), 0);
            Due.is("erase()", y.erase(), 301 - n);
            Due.is("there is room again", y.type(Due.packed("bbbbbbbb"), n), n);
        }
        PatchVoices full = typed(" ".repeat(300));
        for (int n = 1; n <= 8; n++) {
            Due.is("type of " + n + " behind 300", full.type(Due.packed("bbbbbbbb"), n), NONE);
        }
        Due.is("type of 0 behind 300", full.type(Due.packed("b"), 0), NONE);
        Due.is("erase()", full.erase(), 300);
        PatchVoices single = new PatchVoices();
        for (int k = 1; k <= 300; k++) {
            Due.is("one by one", single.type(' ', 1), k);
        }
        Due.is("the 301st", single.type(' ', 1), NONE);
    }

    private static void eraseAnswersHowMany() {
        Due.by("The text is empty then; answers how many characters it had");
        for (int length : new int[] {0, 1, 8, 9, 299, 300}) {
            PatchVoices x = typed("b".repeat(length));
            Due.is("erase()", x.erase(), length);
            Due.is("erase() of none", x.erase(), 0);
            Due.is("compile() of none", x.compile(), -1);
            Due.type(x, "a=pit();");
            Due.is("compile() of what comes then", x.compile(), 0);
            Due.is("compile() left the text", x.erase(), 8);
            Due.is("steps() stay", x.steps(), 1);
        }
    }

    private static void oneStatementOrMore() {
        Due.by("It is a PATCH when it is one STATEMENT or more, one behind the other");
        compiles("", -1);
        compiles(" ", -2);
        compiles(" ".repeat(300), -301);
        compiles("a=pit();", 0);
        compiles("a=pit();b=pit();", 0);
        compiles("a=pit();".repeat(37) + "    ", 3);
        faultAt("a=pit();", ";");
        faultAt("a=pit()", "b=pit();");
        faultAt("a=pit()", ",b=pit();");
    }

    private static void noneOrOneToFourInputs() {
        Due.by("INPUTS are none, or one to four, each an INPUT, with a comma between any two");
        compiles("a=pit();", 0);
        compiles("a=saw(1);", 0);
        compiles("a=add(1,2);", 0);
        compiles("a=mix(1,2,3);", 0);
        compiles("a=env(1,2,3,4);", 0);
        for (String word : WORDS) {
            faultAt("a=" + word + "(1,2,3,4", ",5);");
            faultAt("a=" + word + "(a,a,a,a ", ",");
        }
        faultAt("a=env(", ",1,2,3,4);");
        faultAt("a=env(1,", ",2,3,4);");
        faultAt("a=env(1,2,3,", ");");
        faultAt("a=env(1 ", "2,3,4);");
        faultAt("a=env(b ", "c,3,4);");
        faultAt("a=env(b ", "2,3,4);");
        faultAt("a=env(2 ", "b,3,4);");
        faultAt("a=env(2", "b,3,4);");
        faultAt("a=env(b", "2,3,4);");
        faultAt("a=env(", "(1,2,3,4));");
        faultAt("a=env(1,2,3,4)", ");");
        faultAt("a=env", "1,2,3,4);");
        faultAt("a=env(1,2,3,4", ";");
    }

    private static void blanksAnywhereBut() {
        Due.by("Blanks (32) may stand anywhere but within a name, a word or a number");
        String[] parts = {"abcd", "=", "env", "(", "-12", ",", "abc", ",", "0", ",", "d", ")", ";"};
        String whole = String.join("", parts);
        compiles(whole, 2);
        compiles("   " + String.join("   ", parts) + "   ", 2);
        int at = 0;
        for (String part : parts) {
            compiles(whole.substring(0, at) + " " + whole.substring(at), 2);
            for (int k = 1; k < part.length(); k++) {
                // behind the first letters of a name or digits of a number a blank ends it, so
                // that the fault is what comes then; words and - can't end there
                boolean mayEnd = !part.equals("env") && part.charAt(k - 1) != '-';
                String before = whole.substring(0, at + k) + (mayEnd ? " " : "");
                faultAt(before, (mayEnd ? "" : " ") + whole.substring(at + k));
            }
            at += part.length();
        }
        compiles(whole + " ", 2);
    }

    private static void everyCharacterBehindEveryBeginning() {
        Due.by("the first character with which, behind those before it, no patch begins");
        String start = " " + LETTERS;
        for (String before : new String[] {"", "  ", "a=pit(); ", "a=pit();b=gat();"}) {
            mayFollow(before, start);
        }
        for (String before : new String[] {"a", "ab", "abc", "a=pit();xyz"}) {
            mayFollow(before, " =" + LETTERS);
        }
        for (String before : new String[] {"abcd", "a ", "abc  ", "abcd "}) {
            mayFollow(before, " =");
        }
        for (String before : new String[] {"a=", "a = ", "a=pit();b="}) {
            mayFollow(before, " asmlckpgvtbnedh");
        }
        for (String word : WORDS) {
            mayFollow("a=" + word.substring(0, 1), next(word.substring(0, 1)));
            mayFollow("a=" + word.substring(0, 2), next(word.substring(0, 2)));
            mayFollow("a=" + word, " (");
            mayFollow("a=" + word + " ", " (");
        }
        inputsAndEnds();
    }

    private static void inputsAndEnds() {
        for (String before : new String[] {"a=pit(", "a=pit( "}) {
            mayFollow(before, " )-" + LETTERS + DIGITS);
        }
        for (String before : new String[] {"a=pit(1,", "a=pit(b , ", "a=pit(1,2,3,"}) {
            mayFollow(before, " -" + LETTERS + DIGITS);
        }
        for (String before : new String[] {"a=pit(-", "a=pit(1,2,3,-"}) {
            mayFollow(before, DIGITS);
        }
        for (String before : new String[] {"a=pit(0", "a=pit(-1", "a=pit(12345678", "a=pit(b,1"}) {
            mayFollow(before, " ,)" + DIGITS);
        }
        for (String before : new String[] {"a=pit(b", "a=pit(bcd", "a=pit(1,2,b"}) {
            mayFollow(before, " ,)" + LETTERS);
        }
        for (String before : new String[] {"a=pit(123456789", "a=pit(-123456789", "a=pit(1 ",
            "a=pit(bcde", "a=pit(b ", "a=pit(1,2,3  "}) {
            mayFollow(before, " ,)");
        }
        mayFollow("a=pit(1,2,3,4", " )" + DIGITS);
        mayFollow("a=pit(1,2,3,b", " )" + LETTERS);
        for (String before : new String[] {"a=pit(1,2,3,4 ", "a=pit(1,2,3,bcde",
            "a=pit(1,2,3,-123456789"}) {
            mayFollow(before, " )");
        }
        for (String before : new String[] {"a=pit()", "a=pit() ", "a=pit(1)", "a=pit(1,2,3,b)"}) {
            mayFollow(before, " ;");
        }
    }

    private static String next(String start) {
        StringBuilder letters = new StringBuilder();
        for (String word : WORDS) {
            if (word.startsWith(start)) {
                letters.append(word.charAt(start.length()));
            }
        }
        return letters.toString();
    }

    private static void mayFollow(String before, String characters) {
        for (char c = 32; c <= 126; c++) {
            String text = before + c;
            boolean may = characters.indexOf(c) >= 0;
            if (may && text.trim().endsWith(";")) {
                Due.is("a place in \"" + text + "\"", typed(text).compile() < 0, false);
            } else {
                compiles(text, -1 - before.length() - (may ? 1 : 0));
            }
        }
    }

    private static void everyWordOfThreeLetters() {
        Due.by("A WORD is one of those of the KINDS below");
        for (char a = 'a'; a <= 'z'; a++) {
            for (char b = 'a'; b <= 'z'; b++) {
                for (char c = 'a'; c <= 'z'; c++) {
                    word("" + a + b + c);
                }
            }
        }
        Due.is("how many words there are", WORDS.size(), 20);
    }

    private static void word(String word) {
        int fits = 0;
        while (fits < 3 && !next(word.substring(0, fits)).isEmpty()
                && next(word.substring(0, fits)).indexOf(word.charAt(fits)) >= 0) {
            fits++;
        }
        int answer = typed("a=" + word + "(1,1);").compile();
        if (fits < 3) {
            Due.is("compile() with " + word, answer, -1 - 2 - fits);
        } else {
            Due.is("a place with " + word, answer < 0, false);
        }
    }

    private static void oneToFourLetters() {
        Due.by("A NAME is one to four small letters");
        for (String name : new String[] {"a", "z", "az", "zaz", "azaz", "zzzz", "pit", "add"}) {
            compiles(name + "=pit();", 0);
            compiles(name + "=pit();qq=saw(" + name + ");", 0);
        }
        faultAt("", "=pit();");
        faultAt("azaz", "a=pit();");
        faultAt("q=saw(azaz", "a);");
        for (char c : new char[] {'`', '{', '@', '[', 'A', 'Z', '0', '9', '_', '~', '/', ':'}) {
            faultAt("", c + "=pit();");
            faultAt("az", c + "=pit();");
            if (!Character.isDigit(c)) {
                faultAt("q=saw(", c + ");");
            }
            faultAt("q=saw(az", c + ");");
        }
    }

    private static void oneToNineDigits() {
        Due.by("perhaps - and at once behind it one to nine digits");
        for (String sign : new String[] {"", "-"}) {
            for (int digits = 1; digits <= 9; digits++) {
                number(sign + "9".repeat(digits));
                number(sign + "1".repeat(digits));
                number(sign + "0".repeat(digits));
                number(sign + "0".repeat(digits - 1) + "7");
            }
            faultAt("a=saw(" + sign + "999999999", "9);");
            faultAt("a=saw(" + sign + "000000000", "0);");
            faultAt("a=saw(" + sign + "1", "-);");
        }
        number("123456789");
        number("-987654321");
        faultAt("a=saw(-", ");");
        faultAt("a=saw(-", "-1);");
        faultAt("a=saw(-", " 1);");
        faultAt("a=saw(-", "a);");
        faultAt("a=saw(", "+1);");
        faultAt("a=saw(1", ".0);");
        faultAt("a=saw(", "/1);");
        faultAt("a=saw(", ":1);");
    }

    private static void number(String written) {
        PatchVoices x = Due.playing("a=saw(" + written + ");", false);
        Due.is("the number " + written, x.step(0, 7), Integer.parseInt(written));
    }

    private static void thePlaceIsFromZero() {
        Due.by("the place (from 0) of the first character");
        compiles("?", -1);
        compiles(" ?", -2);
        compiles("a=pit();?", -9);
        compiles("a=pit();" + " ".repeat(291) + "?", -300);
        compiles("a=pit();" + " ".repeat(290) + "??", -299);
        // the first of several
        compiles("a==pit(;", -3);
        compiles("a=pit());;", -8);
    }

    private static void theLengthWhenItEndsTooEarly() {
        Due.by("(the length, when the text only ends too early)");
        String[] texts = {"a=pit();", " ab = env ( abcd , -123456789 , c , 0 ) ; ", "zzzz=noi( );"};
        for (String text : texts) {
            int end = text.indexOf(';') + 1;
            for (int length = 0; length < end; length++) {
                compiles(text.substring(0, length), -1 - length);
                compiles("a=pit();" + text.substring(0, length),
                        text.substring(0, length).trim().isEmpty() ? 0 : -9 - length);
            }
        }
        compiles("a=pit();" + " ".repeat(291) + "b", -301);
        compiles(" ".repeat(293) + "a=pit()", -301);
        compiles(" ".repeat(292) + "a=pit();", 0);
    }
}
