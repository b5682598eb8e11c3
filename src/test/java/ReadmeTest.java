import java.io.IOException;
import java.nio.file.Files;
import java.nio.file.Path;

/** What README.md shows is so: its example, line by line, and every call and test by its name. */
public final class ReadmeTest {
    private static final Check check = new Check();

    public static void main(String[] args) throws IOException {
        example();
        names();
        check.end();
    }

    private static void example() {
        BeforeItGoes plaster = new BeforeItGoes();
        int wall = plaster.wall(1, 4, 8);
        check.due("wall(1, 4, 8)", wall, 0);
        check.due("set(0, 0, 25)", plaster.set(0, 0, 25), 18);
        check.due("told(wall, 4)", plaster.told(wall, 4), 23);
        check.due("day(0)", plaster.day(0), 0);
        check.due("day(1)", plaster.day(1), 47);
        for (char c : "ripens 90 - warm; takes 2; spoils off * 3;".toCharArray()) {
            plaster.feed(c);
        }
        check.due("force(text())", plaster.force(plaster.text()), 0);
        check.due("count(9)", plaster.count(9), 1);
        check.due("film(0)", plaster.film(0), 1);
        check.due("warms(0)", plaster.warms(0), 1L << 25);
    }

    private static void names() throws IOException {
        String readme = Files.readString(Path.of("README.md"));
        for (java.lang.reflect.Method m : BeforeItGoes.class.getDeclaredMethods()) {
            boolean isPublic = java.lang.reflect.Modifier.isPublic(m.getModifiers());
            check.due("told of: " + m.getName(), !isPublic || readme.contains("`" + m.getName() + "`") ? 1 : 0, 1);
        }
        try (java.util.stream.Stream<Path> tests = Files.list(Path.of("src", "test", "java"))) {
            for (Path test : (Iterable<Path>) tests::iterator) {
                String name = test.getFileName().toString().replace(".java", "");
                check.due("told of: " + name, !name.endsWith("Test") || readme.contains("`" + name + "`") ? 1 : 0, 1);
            }
        }
    }
}
