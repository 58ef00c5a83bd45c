import java.io.IOException;
import java.nio.charset.StandardCharsets;
import java.nio.file.Files;
import java.nio.file.Path;

/** The example of README.md stands here too, and answers what is told there. */
public final class ReadmeTest {
    public static void main(String[] args) throws IOException {
        exampleAnswersAsTold();
        exampleStandsHereToo();
        Due.end("ReadmeTest");
    }

    private static void exampleAnswersAsTold() {
        PatchVoices desk = new PatchVoices();
        type(desk, "gate=gat(); e=env(gate,8192,64,4096); p=pit(); s=saw(p); out=mul(s,e);");
        int fault = desk.compile();
        desk.voices(2);
        int voice = desk.note(65536000, 100);
        desk.run(64);
        int sample = desk.out(1);
        int value = desk.tap(voice, 3);
        desk.off(voice);
        boolean active = desk.active(voice);

        Due.is("fault", fault, 0);
        Due.is("voice", voice, 0);
        Due.is("sample", sample, 500);
        Due.is("value", value, -1536);
        Due.is("active", active, true);
    }

    private static void type(PatchVoices desk, String text) {
        for (int at = 0; at < text.length(); at += 8) {
            int end = Math.min(at + 8, text.length());
            long characters = 0;
            for (int i = at; i < end; i++) {
                characters = characters << 8 | text.charAt(i);
            }
            desk.type(characters, end - at);
        }
    }

    private static void exampleStandsHereToo() throws IOException {
        String readme = Files.readString(Path.of("README.md"), StandardCharsets.UTF_8);
        String here = Files.readString(
                Path.of("src/test/java/ReadmeTest.java"), StandardCharsets.UTF_8);
        String[] blocks = readme.split("```");
        int lines = 0;
        for (int i = 1; i < blocks.length; i += 2) {
            if (blocks[i].startsWith("java\n")) {
                for (String line : blocks[i].substring(5).split("\n")) {
                    String code = line.replaceAll("//.*", "").trim();
                    Due.is("stands here: " + code, here.contains(code), true);
                    lines++;
                }
            }
        }
        Due.is("the example has lines", lines > 10, true);
    }
}
