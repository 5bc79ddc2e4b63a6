import java.io.IOException;
import java.lang.reflect.Method;
import java.lang.reflect.Modifier;
import java.nio.file.Files;
import java.nio.file.Path;

/** README.md: its example answers as it says, and it tells of each call with all that the call throws. */
public final class ReadmeTest {
    private static final Check CHECK = new Check();
    private static String readme;

    public static void main(String[] args) throws IOException {
        readme = Files.readString(Path.of("README.md"));
        example();
        for (Method method : NeighbourDesk.class.getDeclaredMethods()) {
            // Private ones may be there too, and are nobody's to call.
            if (Modifier.isPublic(method.getModifiers())) {
                row(method);
            }
        }
        CHECK.end();
    }

    private static void example() {
        stands("NeighbourDesk desk = new NeighbourDesk(8, 50, 100);");
        NeighbourDesk desk = new NeighbourDesk(8, 50, 100);
        stands("desk.claim(0x0a000001);");
        desk.claim(0x0a000001);
        answers("desk.tick(8);", desk.tick(8));
        answers("desk.count(0);", desk.count(0));
        answers("desk.send(0x0a000002, 7);", desk.send(0x0a000002, 7));
        stands("desk.pack(2, 77L, 0x0a000002, 2L, 0x0a000001);");
        desk.pack(2, 77L, 0x0a000002, 2L, 0x0a000001);
        answers("desk.hear();", desk.hear());
        answers("desk.hardware(0x0a000002);", desk.hardware(0x0a000002));
        answers("desk.about(0x0a000002, 0);", desk.about(0x0a000002, 0));
        answers("desk.count(4);", desk.count(4));
        answers("desk.data(6);", desk.data(6));
        answers("desk.to(6);", desk.to(6));
    }

    private static void answers(String call, long answer) {
        stands(call + " // " + answer + ":");
    }

    private static void stands(String line) {
        CHECK.same("README.md has " + line, readme.replaceAll(" +//", " //").contains("\n" + line), true);
    }

    private static void row(Method method) {
        String start = "| `" + method.getReturnType() + " " + method.getName() + "(";
        String row = readme.lines().filter(line -> line.startsWith(start)).findFirst().orElse("");
        String[] cells = row.split(" \\| ");
        CHECK.same("README.md has a row of " + method.getName(), cells.length, 3);
        StringBuilder due = new StringBuilder();
        for (Class<?> thrown : method.getExceptionTypes()) {
            due.append(' ').append(thrown.getSimpleName());
        }
        CHECK.same("what it says that " + method.getName() + " throws", thrownIn(cells[cells.length - 1]), due);
    }

    private static String thrownIn(String cell) {
        StringBuilder found = new StringBuilder();
        for (String word : cell.split("`")) {
            if (word.endsWith("Exception")) {
                found.append(' ').append(word);
            }
        }
        return found.toString();
    }
}
