import java.io.ByteArrayOutputStream;
import java.io.PrintStream;
import java.lang.reflect.Method;
import java.lang.reflect.Modifier;
import java.nio.file.Files;
import java.nio.file.Path;

/** That README.md tells what is so: its example, what that prints, and every call. */
public final class ReadmeTest {
    public static void main(String[] args) throws Exception {
        String readme = Files.readString(Path.of("README.md"));
        House.due("the example", block(readme, "java"), Files.readString(Path.of("src/test/java/Example.java")));
        House.due("what it prints", block(readme, "text"), printed());
        for (Method m : RefactorHouse.class.getDeclaredMethods()) {
            if (Modifier.isPublic(m.getModifiers())) {
                House.due(m.getName() + " in README.md", readme.contains("`" + m.getName() + "(") ? 1 : 0, 1);
            }
        }
        for (String test : Path.of("src/test/java").toFile().list()) {
            String name = test.replace(".java", "");
            House.due(name + " in README.md", name.endsWith("Test") && !readme.contains("`" + name + "`") ? 1 : 0, 0);
        }
        House.end("ReadmeTest");
    }

    /** What stands between ``` of this kind and the next ```. */
    private static String block(String readme, String kind) {
        int from = readme.indexOf("```" + kind + "\n");
        int to = from < 0 ? -1 : readme.indexOf("```", from + 3);
        return to < 0 ? "" : readme.substring(from + kind.length() + 4, to);
    }

    private static String printed() {
        PrintStream out = System.out;
        ByteArrayOutputStream kept = new ByteArrayOutputStream();
        System.setOut(new PrintStream(kept));
        Example.main(new String[0]);
        System.out.flush();
        System.setOut(out);
        return kept.toString().replace("\r\n", "\n");
    }
}
