import java.io.IOException;
import java.lang.reflect.Method;
import java.lang.reflect.Modifier;
import java.nio.file.Files;
import java.nio.file.Path;
import java.util.List;
import java.util.stream.Stream;

/** README.md's example answers what stands behind its calls, and no call and no test is left out of it. */
public final class ReadmeTest {
    private static final Path README = Path.of("README.md");
    private static final Path TESTS = Path.of("src/test/java");

    private static List<String> example;
    private static int line = 0;

    public static void main(String[] args) throws IOException {
        String text = Files.readString(README);
        example = text.substring(text.indexOf("```java\n")).lines()
                .skip(1).takeWhile(l -> !l.equals("```")).toList();
        theExample();
        everyCallIsNamed(text);
        everyTestIsNamed(text);
        Due.end();
    }

    private static void theExample() {
        PedigreePeeling x = new PedigreePeeling();
        next("PedigreePeeling x = new PedigreePeeling();", "");
        int father = x.founder();
        next("int father = x.founder();", father);
        int mother = x.founder();
        next("int mother = x.founder();", mother);
        int child = x.child(father, mother);
        next("int child = x.child(father, mother);", child);
        next("x.frequency(4);", x.frequency(4));
        next("x.likelihood();", x.likelihood());
        next("x.see(child, 0, 0);", x.see(child, 0, 0));
        next("x.see(child, 1, 0);", x.see(child, 1, 0));
        next("x.seen(child, 2);", x.seen(child, 2));
        next("x.likelihood();", x.likelihood());
        next("x.share(father, 1);", x.share(father, 1));
        next("x.shareOfTwo(father, 1, mother, 2);", x.shareOfTwo(father, 1, mother, 2));
        next("x.copies(father);", x.copies(father));
        next("x.possible(father);", x.possible(father));
        next("x.before(father, child);", x.before(father, child));
        next("x.child(father, father);", x.child(father, father));
        next("x.remove();", x.remove());
        next("x.persons();", x.persons());
        Due.due("lines of the example", example.size(), line);
    }

    /** The next line of the example is this code, and its comment begins with the answer that the class gave. */
    private static void next(String code, Object answer) {
        String all = line < example.size() ? example.get(line) : "";
        line++;
        String[] parts = all.split("//", 2);
        String comment = parts.length < 2 ? "" : parts[1].trim();
        Due.due("line " + line + " of the example", parts[0].trim(), code);
        Due.due("answer in line " + line + " of the example", comment.split("[,; ]", 2)[0], answer.toString());
    }

    private static void everyCallIsNamed(String text) {
        for (Method m : PedigreePeeling.class.getDeclaredMethods()) {
            if (Modifier.isPublic(m.getModifiers()) && !text.contains("| `" + m.getName() + "(")) {
                Due.tell("README.md has no row for " + m.getName());
            }
        }
    }

    private static void everyTestIsNamed(String text) throws IOException {
        try (Stream<Path> files = Files.list(TESTS)) {
            for (Path file : files.toList()) {
                String name = file.getFileName().toString().replace(".java", "");
                if (!text.contains("`" + name + "`")) {
                    Due.tell("README.md does not name " + name);
                }
            }
        }
    }
}
