import java.io.IOException;
import java.lang.reflect.Method;
import java.lang.reflect.Modifier;
import java.nio.file.Files;
import java.nio.file.Path;
import java.util.ArrayList;
import java.util.List;

/** What README.md shows is what the class does: each of its lines of code stands here too, and is run. */
public final class ReadmeTests {
    public static void main(String[] args) throws IOException {
        String page = Files.readString(Path.of("README.md"));
        String examples = Files.readString(Path.of("src/test/java/ReadmeTests.java"));
        runExamples();
        for (String line : codeOf(page)) {
            Checks.holds("it is run: " + line, examples.contains("        " + line + "\n"));
        }
        for (Method method : OrderlyNets.class.getDeclaredMethods()) {
            if (Modifier.isPublic(method.getModifiers())) {
                Checks.holds("it names " + method.getName(), page.matches("(?s).*[`.]" + method.getName() + "\\b.*"));
            }
        }
        Checks.end("ReadmeTests");
    }

    private static void runExamples() {
        OrderlyNets nets = new OrderlyNets();
        nets.feed(0x6e6f6465, 0x7320333b, 0x66726565, 0x20330000, 0);   // nodes 3;free 3
        nets.end(14);
        int amount = nets.kind();          // 3 nets of three nodes have no circle of three nodes
        int form = nets.net(3, 2, 0);      // the code of the last one: 3
        int length = nets.text(3, 2);      // writes "net 3 : 0 2, 1 2"; its bytes by octet(0) .. octet(length - 1)
        Checks.due("amount", amount, 3);
        Checks.due("form", form, 3);
        Checks.due("length", length, "net 3 : 0 2, 1 2".length());
        Checks.holds("what is written", Checks.written(nets).equals("net 3 : 0 2, 1 2"));

        int share = nets.start(0, 2, 2, 0);     // 3 nets come from those of level 2 whose number leaves 0 by 2
        int first = nets.next(0);               // 0, its number on level 3
        int listed = nets.resume(0, 2);         // 1 was listed; it goes on behind two of them
        int last = nets.next(0);                // 2
        int behind = nets.next(0);              // NONE: all are listed
        Checks.due("share", share, 3);
        Checks.due("first", first, 0);
        Checks.due("listed", listed, 1);
        Checks.due("last", last, 2);
        Checks.due("behind", behind, OrderlyNets.NONE);
    }

    private static List<String> codeOf(String page) {
        List<String> lines = new ArrayList<>();
        boolean isCode = false;
        for (String line : page.split("\n")) {
            if (line.startsWith("```")) {
                isCode = line.equals("```java");
            } else if (isCode) {
                lines.add(line);
            }
        }
        Checks.holds("it shows code", lines.size() > 5);
        return lines;
    }
}
