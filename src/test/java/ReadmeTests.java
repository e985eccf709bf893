import java.io.IOException;
import java.nio.charset.StandardCharsets;
import java.nio.file.Files;
import java.nio.file.Path;

/** README.md: its example answers what it says, and each call of the document's face stands there as it is called. */
public final class ReadmeTests extends Checks {
    private static final Path FILE = Path.of("README.md");

    public static void main(String[] args) throws IOException {
        String page = Files.readString(FILE, StandardCharsets.UTF_8).replaceAll(" +", " ");
        example(page);
        calls(page);
        end("ReadmeTests");
    }

    private static void example(String page) {
        SparesHouse house = new SparesHouse();
        due("feed", house.feed(0x70617274, 0x20342030, 0x20323b62, 0x61736520, 0x323b6365), 20);
        due("feed", house.feed(0x6c6c2030, 0x20302032, 0x20362031, 0x3b202020, 0x20202020), 40);
        int at = stands(page, "house.feed(0x70617274, 0x20342030, 0x20323b62, 0x61736520, 0x323b6365);", 0);
        at = stands(page, "house.feed(0x6c6c2030, 0x20302032, 0x20362031, 0x3b202020, 0x20202020);", at);
        at = stands(page, "house.text(); // " + house.text() + ":", at);
        at = stands(page, "house.breaks(0, 0); // " + house.breaks(0, 0) + ":", at);
        at = stands(page, "house.pass(3); // " + house.pass(3) + ":", at);
        at = stands(page, "house.played(9); // " + house.played(9) + ":", at);
        stands(page, "house.undo(); // " + house.undo() + ":", at);
    }

    /** Where the page goes on behind that line, which it has from there on. */
    private static int stands(String page, String line, int from) {
        int at = page.indexOf(line, from);
        due("README.md has " + line, at < 0 ? 0 : 1, 1);
        return at < 0 ? from : at + line.length();
    }

    private static void calls(String page) {
        for (String line : Document.face()) {
            if (line.contains("(")) {
                String call = line.replaceAll("^public (int |long )?|;$", "").replaceAll("\\b(int|boolean) ", "");
                boolean stands = page.contains("`" + call + "`") || page.contains("`new " + call + "`");
                due("README.md has " + call, stands ? 1 : 0, 1);
            }
        }
    }
}
