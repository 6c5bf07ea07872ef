import java.io.IOException;
import java.lang.reflect.Method;
import java.lang.reflect.Modifier;
import java.nio.charset.StandardCharsets;
import java.nio.file.Files;
import java.nio.file.Path;

/** The example of README.md: its lines stand there as they are called here, with these answers. */
public final class ReadmeTest {
    private static final Check CHECK = new Check("ReadmeTest");
    private static String readme;

    public static void main(String[] args) throws IOException {
        readme = Files.readString(Path.of("README.md"), StandardCharsets.US_ASCII);
        BackLogic x = new BackLogic();
        line("x.feed(0x77697265, 0x20613b77, 0x69726520, 0x623b6761, 0x74652061);",
            x.feed(0x77697265, 0x20613b77, 0x69726520, 0x623b6761, 0x74652061));
        line("x.feed(0x20623b20, 0x20202020, 0x20202020, 0x20202020, 0x20202020);",
            x.feed(0x20623b20, 0x20202020, 0x20202020, 0x20202020, 0x20202020));
        line("x.back(17);", x.back(17));
        line("x.read();", x.read());
        line("x.made(2, 1);", x.made(2, 1));
        line("x.undone(3);", x.undone(3));
        line("x.put(1, 1, 1, 0);", x.put(1, 1, 1, 0));
        line("x.least(BackLogic.NONE, 0);", x.least(BackLogic.NONE, 0));
        line("x.hold(0);", x.hold(0));
        line("x.undo();", x.undo());
        line("x.off(0);", x.off(0));
        int from = readme.indexOf("wire a; wire b; wire c;");
        String told = readme.substring(from, readme.indexOf("```", from)).replaceAll(";  .*", ";");
        CHECK.due("the lines of a text", Check.read(x, told), 0);
        CHECK.due("its wires", x.count(0), 3);
        CHECK.due("its gate", x.made(1, 1), 5);
        CHECK.due("its table", x.table(0), 2);
        for (Method method : BackLogic.class.getDeclaredMethods()) {
            if (Modifier.isPublic(method.getModifiers())) {
                String name = method.getName();
                CHECK.due("told of: " + name, readme.contains("`" + name + "`"), true);
            }
        }
        CHECK.end();
    }

    private static void line(String call, Object answer) {
        boolean stands = readme.lines().anyMatch(
            text -> text.startsWith(call) && text.matches(".*// " + answer + "(:.*)?"));
        CHECK.due(call + " // " + answer, stands, true);
    }
}
