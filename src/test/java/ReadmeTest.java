import java.io.IOException;
import java.io.UncheckedIOException;
import java.lang.reflect.Field;
import java.lang.reflect.Modifier;
import java.nio.file.Files;
import java.nio.file.Path;
import java.util.ArrayList;
import java.util.Comparator;
import java.util.List;
import java.util.concurrent.TimeUnit;
import java.util.regex.Matcher;
import java.util.regex.Pattern;
import java.util.stream.Stream;

/** Does what README.md says, in a copy of the checkout with the shared directory beside it. */
public final class ReadmeTest {
    private static final int MOST_SECONDS = 300;

    private static int wrong;

    private static void holds(String what, boolean is) {
        if (!is) {
            wrong++;
            System.out.println("ReadmeTest: " + what);
        }
    }

    public static void main(String[] args) throws IOException, InterruptedException {
        String readme = Files.readString(Path.of("README.md"));
        constants(readme);
        tests(readme);
        Path room = Files.createTempDirectory("readme");
        try {
            follows(readme, room);
        } finally {
            remove(room);
        }
        System.out.println(wrong == 0 ? "ReadmeTest: all is as README.md says" : "ReadmeTest: " + wrong + " things are not as README.md says");
        if (wrong != 0) {
            System.exit(1);
        }
    }

    private static void constants(String readme) {
        for (Field f : RoundFigures.class.getFields()) {
            if (Modifier.isStatic(f.getModifiers())) {
                holds(f.getName() + " stands there with its number", readme.contains("| `" + f.getName() + "` | " + valueOf(f) + " |"));
            }
        }
    }

    private static int valueOf(Field f) {
        try {
            return f.getInt(null);
        } catch (IllegalAccessException e) {
            return 0;
        }
    }

    private static void tests(String readme) throws IOException {
        holds(".ci/run can be run", Files.isExecutable(Path.of(".ci/run")));
        List<String> own = new ArrayList<>();
        try (Stream<Path> files = Files.list(Path.of("src/test/java"))) {
            files.forEach(p -> own.add(p.getFileName().toString().replace(".java", "")));
        }
        for (String name : own) {
            holds(name + " is named", readme.contains("`" + name + "`"));
        }
        Matcher named = Pattern.compile("`(\\w+Test)`").matcher(readme);
        while (named.find()) {
            holds("there is a " + named.group(1), own.contains(named.group(1)));
        }
    }

    private static void follows(String readme, Path room) throws IOException, InterruptedException {
        Path checkout = room.resolve("main");
        copy(Path.of("src"), checkout.resolve("src"));
        copy(Path.of("../shared"), room.resolve("shared"));
        List<String> programs = blocks(readme, "java");
        List<String> commands = blocks(readme, "sh");
        List<String> printed = blocks(readme, "text");
        holds("one program, what it prints, and two rows of commands", programs.size() == 1 && printed.size() == 1 && commands.size() == 2);
        if (wrong != 0) {
            return;
        }
        Files.writeString(checkout.resolve("Trip.java"), programs.get(0));
        String told = run(commands.get(0), checkout);
        holds("the program prints\n" + told, told.equals(printed.get(0)));
        run(commands.get(1), checkout);
    }

    private static List<String> blocks(String readme, String sort) {
        List<String> found = new ArrayList<>();
        Matcher m = Pattern.compile("(?ms)^```" + sort + "\n(.*?)^```$").matcher(readme);
        while (m.find()) {
            found.add(m.group(1));
        }
        return found;
    }

    private static String run(String commands, Path where) throws IOException, InterruptedException {
        Path printed = where.resolve("printed");
        Process p = new ProcessBuilder("sh", "-e", "-c", commands).directory(where.toFile()).redirectErrorStream(true).redirectOutput(printed.toFile()).start();
        boolean ended = p.waitFor(MOST_SECONDS, TimeUnit.SECONDS);
        if (!ended) {
            p.destroyForcibly().waitFor();
        }
        String told = Files.readString(printed);
        holds("these commands end well:\n" + commands + told, ended && p.exitValue() == 0);
        return told;
    }

    private static void copy(Path from, Path to) throws IOException {
        List<Path> all;
        try (Stream<Path> walk = Files.walk(from)) {
            all = walk.toList();
        }
        for (Path p : all) {
            Path target = to.resolve(from.relativize(p).toString());
            if (Files.isDirectory(p)) {
                Files.createDirectories(target);
            } else {
                // not Files.copy: what is shared may be read only, and its copy must go again
                Files.write(target, Files.readAllBytes(p));
            }
        }
    }

    private static void remove(Path room) throws IOException {
        try (Stream<Path> walk = Files.walk(room)) {
            walk.sorted(Comparator.reverseOrder()).forEach(ReadmeTest::delete);
        }
    }

    private static void delete(Path p) {
        try {
            Files.delete(p);
        } catch (IOException e) {
            throw new UncheckedIOException(e);
        }
    }
}
